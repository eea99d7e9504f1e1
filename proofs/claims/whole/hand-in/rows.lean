section
theorem pk_us {f : Nat → Int32} {k : Nat} {x : Int32} : upd f k x k = x := if_pos rfl
theorem pk_un {f : Nat → Int32} {k j : Nat} {x : Int32} (h : j ≠ k) : upd f k x j = f j := if_neg h
theorem pk_sub {a b : Nat} (h : b ≤ a) : nI a - nI b = nI (a - b) := by
  obtain ⟨c, rfl⟩ : ∃ c, a = c + b := ⟨a - b, by omega⟩
  rw [← nI_add, Int32.add_sub_cancel, Nat.add_sub_cancel]
theorem pk_m1 (n : Nat) : nI (n + 1) + (-1) = nI n := by
  rw [← nI_1, Int32.add_assoc, show (1 : Int32) + (-1) = 0 from rfl, Int32.add_zero]
theorem pk_mul (a b : Nat) : nI a * nI b = nI (a * b) := (Int32.ofNat_mul a b).symm
theorem pk_div {a d : Nat} (ha : a < 2 ^ 31) (h0 : 0 < d) (hd : d < 2 ^ 31) : nI a / nI d = nI (a / d) := by
  apply Int32.toInt_inj.mp
  rw [lg_idiv_nonneg (by rw [nI_toInt ha]; omega) (by rw [nI_toInt hd]; omega), nI_toInt ha, nI_toInt hd, nI_toInt (Nat.lt_of_le_of_lt (Nat.div_le_self a d) ha)]
  first | rfl | exact (Int.natCast_ediv _ _).symm
theorem pk_rem {a d : Nat} (ha : a < 2 ^ 31) (h0 : 0 < d) (hd : d < 2 ^ 31) : nI a - nI a / nI d * nI d = nI (a % d) := by
  rw [pk_div ha h0 hd, pk_mul, pk_sub (Nat.div_mul_le_self a d)]
  exact congrArg nI (by have := Nat.div_add_mod' a d; omega)
theorem pk_sub_toInt {a b : Nat} (ha : a < 2 ^ 30) (hb : b < 2 ^ 30) : (nI a - nI b).toInt = (a : Int) - b := by
  rw [Int32.toInt_sub, nI_toInt (by omega), nI_toInt (by omega)]
  exact Int.bmod_eq_of_le (by omega) (by omega)
theorem pk_ix (x : Int32) {n : Nat} (hn : n < 2 ^ 31) : x < 0 ∨ nI n ≤ x ∨ ∃ j : Nat, j < n ∧ x = nI j := by
  by_cases h : x < 0
  · exact Or.inl h
  · obtain ⟨j, hj, rfl⟩ := nI_of h
    by_cases h2 : j < n
    · exact Or.inr (Or.inr ⟨j, h2, rfl⟩)
    · exact Or.inr (Or.inl (nI_le (by omega) hj))
theorem pk_le {x y : Int32} {A B : Prop} (a b : Nat) (f : a ≤ b → A) (g : b < a → B) (hx : x = nI a := by rfl) (hy : y = nI b := by rfl) (ha : a < 2 ^ 31 := by omega) (hb : b < 2 ^ 31 := by omega) : (x ≤ y → A) ∧ (¬ x ≤ y → B) := by
  subst hx hy
  rw [nI_leI ha hb]
  exact ⟨f, fun z => g (by omega)⟩
theorem pk_lt {x y : Int32} {A B : Prop} (a b : Nat) (f : a < b → A) (g : b ≤ a → B) (hx : x = nI a := by rfl) (hy : y = nI b := by rfl) (ha : a < 2 ^ 31 := by omega) (hb : b < 2 ^ 31 := by omega) : (x < y → A) ∧ (¬ x < y → B) := by
  subst hx hy
  rw [nI_ltI ha hb]
  exact ⟨f, fun z => g (by omega)⟩
theorem pk_eq {x y : Int32} {A B : Prop} (a b : Nat) (f : a = b → A) (g : a ≠ b → B) (hx : x = nI a := by rfl) (hy : y = nI b := by rfl) (ha : a < 2 ^ 31 := by omega) (hb : b < 2 ^ 31 := by omega) : (x = y → A) ∧ (¬ x = y → B) := by
  subst hx hy
  rw [nI_eq ha hb]
  exact ⟨f, g⟩
theorem pk_in {x : Int32} (n N : Nat) (h : n < N) (hx : x = nI n := by rfl) (hN : N < 2 ^ 31 := by omega) : vp_in x N := by
  subst hx
  exact vp_in_nI h hN
theorem pk_cl {x : Int32} (n : Nat) (hx : x = nI n := by rfl) (h : n < 2 ^ 31 := by omega) : x.toNatClampNeg = n := by
  subst hx
  exact nI_clamp h
theorem pk_tn {n : Nat} (h : n < 2 ^ 32) : (nI n).toBitVec.toNat = n := Nat.mod_eq_of_lt h
theorem pk_and (x : Int32) {m : Int32} (k : Nat) (hm : m.toBitVec.toNat = 2 ^ k - 1) : x &&& m = nI (x.toBitVec.toNat % 2 ^ k) := by
  apply Int32.toBitVec_inj.mp
  apply BitVec.eq_of_toNat_eq
  rw [Int32.toBitVec_and, BitVec.toNat_and, hm, Nat.and_two_pow_sub_one_eq_mod]
  show _ = (BitVec.ofNat 32 _).toNat
  rw [BitVec.toNat_ofNat]
  exact (Nat.mod_eq_of_lt (Nat.lt_of_le_of_lt (Nat.mod_le _ _) x.toBitVec.isLt)).symm
theorem pk_andN {n : Nat} (h : n < 2 ^ 32) {m : Int32} (k : Nat) (hm : m.toBitVec.toNat = 2 ^ k - 1) : nI n &&& m = nI (n % 2 ^ k) := by
  rw [pk_and _ k hm, pk_tn h]
theorem pk_shl (a s : Int32) (k : Nat) (hs : (s.toBitVec.smod 32).toNat = k) : (a <<< s).toBitVec.toNat = a.toBitVec.toNat * 2 ^ k % 2 ^ 32 := by
  show (a.toBitVec <<< (s.toBitVec.smod 32).toNat).toNat = _
  rw [hs, BitVec.toNat_shiftLeft, Nat.shiftLeft_eq]
theorem pk_shlN {n : Nat} (s : Int32) (k : Nat) (hs : (s.toBitVec.smod 32).toNat = k) (h : n * 2 ^ k < 2 ^ 32) : nI n <<< s = nI (n * 2 ^ k) := by
  apply Int32.toBitVec_inj.mp
  apply BitVec.eq_of_toNat_eq
  have hn : n < 2 ^ 32 := Nat.lt_of_le_of_lt (Nat.le_mul_of_pos_right n (Nat.two_pow_pos k)) h
  rw [pk_shl _ _ k hs, pk_tn hn, pk_tn h, Nat.mod_eq_of_lt h]
theorem pk_shr (a s : Int32) (k : Nat) (hs : (s.toBitVec.smod 32).toNat = k) : (a >>> s).toInt = a.toInt >>> k := by
  show (a.toBitVec.sshiftRight (s.toBitVec.smod 32).toNat).toInt = _
  rw [hs, BitVec.toInt_sshiftRight]
  rfl
theorem pk_shrN {n : Nat} (h : n < 2 ^ 31) (s : Int32) (k : Nat) (hs : (s.toBitVec.smod 32).toNat = k) : nI n >>> s = nI (n / 2 ^ k) := by
  apply Int32.toInt_inj.mp
  have h2 : n / 2 ^ k ≤ n := Nat.div_le_self _ _
  rw [pk_shr _ _ k hs, nI_toInt h, nI_toInt (by omega), Int.shiftRight_eq_div_pow]
  rfl
theorem pk_lT {n : Nat} (h : n < 2 ^ 63) : (lN n).toInt = (n : Int) := lg_ofNat_toInt h
theorem pk_lLT {a b : Nat} (ha : a < 2 ^ 63) (hb : b < 2 ^ 63) : lN a < lN b ↔ a < b := by
  rw [Int64.lt_iff_toInt_lt, pk_lT ha, pk_lT hb]; omega
theorem pk_lLE {a b : Nat} (ha : a < 2 ^ 63) (hb : b < 2 ^ 63) : lN a ≤ lN b ↔ a ≤ b := by
  rw [Int64.le_iff_toInt_le, pk_lT ha, pk_lT hb]; omega
theorem pk_lEQ {a b : Nat} (ha : a < 2 ^ 63) (hb : b < 2 ^ 63) : lN a = lN b ↔ a = b := by
  rw [← Int64.toInt_inj, pk_lT ha, pk_lT hb]; omega
theorem pk_loop {σ : Type} (W : Nat → Nat → σ → Prop) (I : Nat → σ → Prop) (e i0 : Nat) (s : σ) (hi : i0 ≤ e) (h0 : I i0 s) (hx : ∀ n s, I e s → W (n + 1) e s)
    (hs : ∀ n i s, i < e → I i s → (∀ s', I (i + 1) s' → W n (i + 1) s') → W (n + 1) i s) : ∃ n, W n i0 s :=
  ⟨e + 1, loop_i W I e hx hs (e + 1) i0 s hi (by omega) h0⟩
theorem lp1 {A1 : Type} (W : Nat → A1 → Prop) (I : A1 → Prop) (μ : A1 → Nat) (hs : ∀ (n : Nat) (a1 : A1), I a1 → (∀ (b1 : A1), I b1 → μ b1 < μ a1 → W n b1) → W (n + 1) a1) (a1 : A1) (h : I a1) : ∃ n, W n a1 :=
  loop_m (σ := A1) (fun n s => W n s) (fun s => I s) (fun s => μ s) (fun n s hI hk => hs n s hI (fun b1 h9 hm => hk b1 h9 hm)) a1 h
theorem lp2 {A1 A2 : Type} (W : Nat → A1 → A2 → Prop) (I : A1 → A2 → Prop) (μ : A1 → A2 → Nat) (hs : ∀ (n : Nat) (a1 : A1) (a2 : A2), I a1 a2 → (∀ (b1 : A1) (b2 : A2), I b1 b2 → μ b1 b2 < μ a1 a2 → W n b1 b2) → W (n + 1) a1 a2) (a1 : A1) (a2 : A2) (h : I a1 a2) : ∃ n, W n a1 a2 :=
  loop_m (σ := A1 × A2) (fun n s => W n s.1 s.2) (fun s => I s.1 s.2) (fun s => μ s.1 s.2) (fun n s hI hk => hs n s.1 s.2 hI (fun b1 b2 h9 hm => hk (b1, b2) h9 hm)) (a1, a2) h
theorem lp3 {A1 A2 A3 : Type} (W : Nat → A1 → A2 → A3 → Prop) (I : A1 → A2 → A3 → Prop) (μ : A1 → A2 → A3 → Nat) (hs : ∀ (n : Nat) (a1 : A1) (a2 : A2) (a3 : A3), I a1 a2 a3 → (∀ (b1 : A1) (b2 : A2) (b3 : A3), I b1 b2 b3 → μ b1 b2 b3 < μ a1 a2 a3 → W n b1 b2 b3) → W (n + 1) a1 a2 a3) (a1 : A1) (a2 : A2) (a3 : A3) (h : I a1 a2 a3) : ∃ n, W n a1 a2 a3 :=
  loop_m (σ := A1 × A2 × A3) (fun n s => W n s.1 s.2.1 s.2.2) (fun s => I s.1 s.2.1 s.2.2) (fun s => μ s.1 s.2.1 s.2.2) (fun n s hI hk => hs n s.1 s.2.1 s.2.2 hI (fun b1 b2 b3 h9 hm => hk (b1, b2, b3) h9 hm)) (a1, a2, a3) h
theorem lp4 {A1 A2 A3 A4 : Type} (W : Nat → A1 → A2 → A3 → A4 → Prop) (I : A1 → A2 → A3 → A4 → Prop) (μ : A1 → A2 → A3 → A4 → Nat) (hs : ∀ (n : Nat) (a1 : A1) (a2 : A2) (a3 : A3) (a4 : A4), I a1 a2 a3 a4 → (∀ (b1 : A1) (b2 : A2) (b3 : A3) (b4 : A4), I b1 b2 b3 b4 → μ b1 b2 b3 b4 < μ a1 a2 a3 a4 → W n b1 b2 b3 b4) → W (n + 1) a1 a2 a3 a4) (a1 : A1) (a2 : A2) (a3 : A3) (a4 : A4) (h : I a1 a2 a3 a4) : ∃ n, W n a1 a2 a3 a4 :=
  loop_m (σ := A1 × A2 × A3 × A4) (fun n s => W n s.1 s.2.1 s.2.2.1 s.2.2.2) (fun s => I s.1 s.2.1 s.2.2.1 s.2.2.2) (fun s => μ s.1 s.2.1 s.2.2.1 s.2.2.2) (fun n s hI hk => hs n s.1 s.2.1 s.2.2.1 s.2.2.2 hI (fun b1 b2 b3 b4 h9 hm => hk (b1, b2, b3, b4) h9 hm)) (a1, a2, a3, a4) h
def bt (x : Int32) (i : Nat) : Bool := x.toBitVec.getLsbD i
theorem b_ext {x y : Int32} (h : ∀ i, i < 32 → bt x i = bt y i) : x = y := Int32.toBitVec_inj.mp (BitVec.eq_of_getLsbD_eq (fun i hi => h i hi))
theorem b_or (x y : Int32) (i : Nat) : bt (x ||| y) i = (bt x i || bt y i) := by unfold bt; rw [Int32.toBitVec_or, BitVec.getLsbD_or]
theorem b_and (x y : Int32) (i : Nat) : bt (x &&& y) i = (bt x i && bt y i) := by unfold bt; rw [Int32.toBitVec_and, BitVec.getLsbD_and]
theorem b_xor (x y : Int32) (i : Nat) : bt (x ^^^ y) i = (bt x i ^^ bt y i) := by unfold bt; rw [Int32.toBitVec_xor, BitVec.getLsbD_xor]
theorem b_big {x : Int32} {i : Nat} (h : 32 ≤ i) : bt x i = false := BitVec.getLsbD_of_ge _ _ h
theorem b_m1 : ∀ i, i < 32 → bt (-1) i = true := by decide +kernel
theorem b_0 (i : Nat) : bt 0 i = false := BitVec.getLsbD_zero
theorem s_l : ∀ n, n < 32 → ((nI n &&& 31).toBitVec.smod 32).toNat = n := by decide +kernel
theorem b_shl (n : Nat) (hn : n < 32) (x : Int32) {i : Nat} (hi : i < 32) : bt (x <<< (nI n &&& 31)) i = (decide (n ≤ i) && bt x (i - n)) := by
  unfold bt
  rw [Int32.toBitVec_shiftLeft]
  show (x.toBitVec <<< ((nI n &&& 31).toBitVec.smod 32).toNat).getLsbD i = _
  rw [s_l n hn, BitVec.getLsbD_shiftLeft]
  rcases Nat.lt_or_ge i n with h | h
  · simp [h, Nat.not_le.mpr h]
  · simp [hi, h, Nat.not_lt.mpr h]
theorem b_sshr (n : Nat) (hn : n < 32) (x : Int32) {i : Nat} (hi : i < 32) : bt (x >>> (nI n &&& 31)) i = if n + i < 32 then bt x (n + i) else bt x 31 := by
  unfold bt
  rw [Int32.toBitVec_shiftRight]
  show (x.toBitVec.sshiftRight ((nI n &&& 31).toBitVec.smod 32).toNat).getLsbD i = _
  rw [s_l n hn, BitVec.getLsbD_sshiftRight, BitVec.msb_eq_getLsbD_last]
  simp [hi]
theorem nx_and (a b : Nat) : nI a &&& nI b = nI (a &&& b) := by
  apply Int32.toBitVec_inj.1
  show BitVec.ofNat 32 a &&& BitVec.ofNat 32 b = BitVec.ofNat 32 (a &&& b)
  apply BitVec.eq_of_getLsbD_eq
  intro i hi
  simp [hi]
theorem nx_xor (a b : Nat) : nI a ^^^ nI b = nI (a ^^^ b) := by
  apply Int32.toBitVec_inj.1
  show BitVec.ofNat 32 a ^^^ BitVec.ofNat 32 b = BitVec.ofNat 32 (a ^^^ b)
  apply BitVec.eq_of_getLsbD_eq
  intro i hi
  simp [hi]
end
section
/-! the matrix of bounds over five variables: P i j is the least bound known of x_i - x_j, 1000000000 where there is none -/
def fd_put (P : Nat → Nat → Int) (i j : Nat) (c : Int) : Nat → Nat → Int := fun a b => if a = i ∧ b = j ∧ c < P i j then c else P a b
def fd_P0 : Nat → Nat → Int := fun a b => if a = b then 0 else 1000000000
def fd_ini (L R : Nat → Nat) (C : Nat → Int) (ch : Nat) : Nat → Nat → Nat → Int
  | 0 => fd_P0
  | d + 1 => if ch.testBit d = true then fd_put (fd_ini L R C ch d) (L d) (R d) (C d) else fd_put (fd_ini L R C ch d) (R d) (L d) (- C d - 1)
def fd_via (P : Nat → Nat → Int) (m : Nat) : Nat → Nat → Int := fun i j => if P i m ≠ 1000000000 ∧ P m j ≠ 1000000000 ∧ P i m + P m j < P i j then P i m + P m j else P i j
def fd_vo (m : Nat) (o : Option (Nat → Nat → Int)) : Option (Nat → Nat → Int) := match o with
  | none => none
  | some P => if P m m < 0 then none else some (fd_via P m)
def fd_vn (o : Option (Nat → Nat → Int)) : Nat → Option (Nat → Nat → Int)
  | 0 => o
  | m + 1 => fd_vo m (fd_vn o m)
def fd_fin (o : Option (Nat → Nat → Int)) : Option (Nat → Nat → Int) := match o with
  | none => none
  | some P => if P 0 0 < 0 ∨ P 1 1 < 0 ∨ P 2 2 < 0 ∨ P 3 3 < 0 ∨ P 4 4 < 0 then none else some P
def fd_res (L R : Nat → Nat) (C : Nat → Int) (n ch : Nat) : Option (Nat → Nat → Int) := fd_fin (fd_vn (some (fd_ini L R C ch n)) 5)
/-- a cell v that stands for the bound x, with N for no bound -/
def fd_gw (N x : Int) (v : Int32) : Prop := (x = 1000000000 ∧ v.toInt = N) ∨ (x ≠ 1000000000 ∧ v.toInt = x)
def fd_rg (B : Int) (P : Nat → Nat → Int) : Prop := ∀ i j, i < 5 → j < 5 → P i j = 1000000000 ∨ (-B ≤ P i j ∧ P i j ≤ B)
def fd_bad (g : Nat → Nat → Int32) : Prop := ∃ i, i < 5 ∧ (g i i).toInt < 0
def fd_pc (N B : Int) (o : Option (Nat → Nat → Int)) (g : Nat → Nat → Int32) : Prop := match o with
  | none => fd_bad g
  | some P => fd_rg B P ∧ ∀ i j, i < 5 → j < 5 → fd_gw N (P i j) (g i j)
def fd_in (N B : Int) (o : Option (Nat → Nat → Int)) (m : Nat) (D : Nat → Nat → Prop) (g : Nat → Nat → Int32) : Prop := match o with
  | none => fd_bad g
  | some P => (P m m < 0 ∧ fd_bad g) ∨ (0 ≤ P m m ∧ fd_rg B P ∧ ∀ i j, i < 5 → j < 5 → (D i j → fd_gw N (fd_via P m i j) (g i j)) ∧ (¬ D i j → fd_gw N (P i j) (g i j)))
theorem fd_add {a c : Int32} (h1 : -100000000 ≤ a.toInt) (h2 : a.toInt ≤ 100000000) (h3 : -100000000 ≤ c.toInt) (h4 : c.toInt ≤ 100000000) : (a + c).toInt = a.toInt + c.toInt := by
  rw [Int32.toInt_add]
  exact Int.bmod_eq_of_le (by omega) (by omega)
theorem fd_viaL {P : Nat → Nat → Int} {m : Nat} (h : 0 ≤ P m m) (i : Nat) : fd_via P m i m = P i m := by
  unfold fd_via
  rw [if_neg (by omega)]
theorem fd_viaR {P : Nat → Nat → Int} {m : Nat} (h : 0 ≤ P m m) (j : Nat) : fd_via P m m j = P m j := by
  unfold fd_via
  rw [if_neg (by omega)]
theorem fd_viaG {B : Int} {P : Nat → Nat → Int} {m : Nat} (hm : m < 5) (hB : 0 ≤ B) (h : fd_rg B P) : fd_rg (2 * B) (fd_via P m) := by
  intro i j hi hj
  have h1 := h i j hi hj
  have h2 := h i m hi hm
  have h3 := h m j hm hj
  unfold fd_via
  split <;> omega
theorem fd_begin {N B : Int} {o : Option (Nat → Nat → Int)} {g : Nat → Nat → Int32} {m : Nat} (hm : m < 5) (h : fd_pc N B o g) : fd_in N B o m (fun _ _ => False) g := by
  cases o with
  | none => exact h
  | some P =>
    by_cases z : P m m < 0
    · refine Or.inl ⟨z, m, hm, ?_⟩
      have := h.2 m m hm hm
      unfold fd_gw at this
      omega
    · exact Or.inr ⟨by omega, h.1, fun i j hi hj => ⟨fun f => f.elim, fun _ => h.2 i j hi hj⟩⟩
theorem fd_end {N B : Int} {o : Option (Nat → Nat → Int)} {g : Nat → Nat → Int32} {m : Nat} {D : Nat → Nat → Prop} (hm : m < 5) (hB : 0 ≤ B) (hD : ∀ i j, i < 5 → j < 5 → D i j) (h : fd_in N B o m D g) : fd_pc N (2 * B) (fd_vo m o) g := by
  cases o with
  | none => exact h
  | some P =>
    rcases h with ⟨z, hb⟩ | ⟨z, hr, hg⟩
    · show fd_pc N (2 * B) (if P m m < 0 then none else some (fd_via P m)) g
      rw [if_pos z]
      exact hb
    · show fd_pc N (2 * B) (if P m m < 0 then none else some (fd_via P m)) g
      rw [if_neg (by omega)]
      exact ⟨fd_viaG hm hB hr, fun i j hi hj => (hg i j hi hj).1 (hD i j hi hj)⟩
theorem fd_badLe {g g' : Nat → Nat → Int32} (i j : Nat) (hi : i < 5) (hj : j < 5) (hg : ∀ a b, a < 5 → b < 5 → ¬ (a = i ∧ b = j) → g' a b = g a b) (hle : (g' i j).toInt ≤ (g i j).toInt) (h : fd_bad g) : fd_bad g' := by
  obtain ⟨k, hk, hb⟩ := h
  refine ⟨k, hk, ?_⟩
  by_cases e : k = i ∧ k = j
  · obtain ⟨rfl, e2⟩ := e
    subst e2
    omega
  · rw [hg k k hk hk e]
    exact hb
theorem fd_step {N B : Int} (hN : 1000000 ≤ N) (hN2 : N ≤ 1000000000) (hB0 : 0 ≤ B) (hB : B ≤ 16016) {o : Option (Nat → Nat → Int)} {m : Nat} (hm : m < 5) {D : Nat → Nat → Prop} {g g' : Nat → Nat → Int32} (h : fd_in N B o m D g) (i j : Nat) (hi : i < 5) (hj : j < 5)
    (hg : ∀ a b, a < 5 → b < 5 → ¬ (a = i ∧ b = j) → g' a b = g a b) (hle : (g' i j).toInt ≤ (g i j).toInt)
    (hd : ((g i m).toInt = N ∨ (g i m).toInt ≤ 32032) → ((g m j).toInt = N ∨ (g m j).toInt ≤ 32032) →
      (((g i m).toInt ≠ N ∧ (g m j).toInt ≠ N ∧ (g i m + g m j).toInt < (g i j).toInt) → g' i j = g i m + g m j) ∧
      (¬ ((g i m).toInt ≠ N ∧ (g m j).toInt ≠ N ∧ (g i m + g m j).toInt < (g i j).toInt) → g' i j = g i j)) :
    fd_in N B o m (fun a b => D a b ∨ (a = i ∧ b = j)) g' := by
  cases o with
  | none => exact fd_badLe i j hi hj hg hle h
  | some P =>
    rcases h with ⟨z, hb⟩ | ⟨z, hr, hv⟩
    · exact Or.inl ⟨z, fd_badLe i j hi hj hg hle hb⟩
    · refine Or.inr ⟨z, hr, ?_⟩
      have eA : fd_gw N (P i m) (g i m) := by
        have h1 := hv i m hi hm
        rw [fd_viaL z] at h1
        by_cases q : D i m
        · exact h1.1 q
        · exact h1.2 q
      have eC : fd_gw N (P m j) (g m j) := by
        have h1 := hv m j hm hj
        rw [fd_viaR z] at h1
        by_cases q : D m j
        · exact h1.1 q
        · exact h1.2 q
      have rA := hr i m hi hm
      have rC := hr m j hm hj
      have rI := hr i j hi hj
      have key : fd_gw N (fd_via P m i j) (g' i j) := by
        have hvi := hv i j hi hj
        by_cases q : D i j
        · -- done before: a second time changes nothing
          have e0 := hvi.1 q
          unfold fd_gw at eA eC e0
          have hd' := hd (by omega) (by omega)
          have hs : (g i m).toInt ≠ N → (g m j).toInt ≠ N → (g i m + g m j).toInt = (g i m).toInt + (g m j).toInt := fun a b => fd_add (by omega) (by omega) (by omega) (by omega)
          unfold fd_gw
          unfold fd_via at e0 ⊢
          have hn : ¬ ((g i m).toInt ≠ N ∧ (g m j).toInt ≠ N ∧ (g i m + g m j).toInt < (g i j).toInt) := by
            rintro ⟨a, b, c⟩
            rw [hs a b] at c
            split at e0 <;> omega
          rw [hd'.2 hn]
          exact e0
        · have e0 := hvi.2 q
          unfold fd_gw at eA eC e0
          have hd' := hd (by omega) (by omega)
          have hs : (g i m).toInt ≠ N → (g m j).toInt ≠ N → (g i m + g m j).toInt = (g i m).toInt + (g m j).toInt := fun a b => fd_add (by omega) (by omega) (by omega) (by omega)
          unfold fd_gw fd_via
          by_cases t : (g i m).toInt ≠ N ∧ (g m j).toInt ≠ N ∧ (g i m + g m j).toInt < (g i j).toInt
          · have t' := t
            rw [hs t.1 t.2.1] at t'
            rw [hd'.1 t, if_pos (by omega), hs t.1 t.2.1]
            omega
          · rw [hd'.2 t, if_neg ?_]
            · exact e0
            · rintro ⟨a, b, c⟩
              apply t
              have a' : (g i m).toInt ≠ N := by omega
              have b' : (g m j).toInt ≠ N := by omega
              refine ⟨a', b', ?_⟩
              rw [hs a' b']
              omega
      intro a b ha hb
      by_cases e : a = i ∧ b = j
      · obtain ⟨rfl, rfl⟩ := e
        exact ⟨fun _ => key, fun q => (q (Or.inr ⟨rfl, rfl⟩)).elim⟩
      · rw [hg a b ha hb e]
        exact ⟨fun q => (hv a b ha hb).1 (q.resolve_right e), fun q => (hv a b ha hb).2 (fun q' => q (Or.inl q'))⟩
theorem fd_inCong {N B : Int} {o : Option (Nat → Nat → Int)} {m : Nat} {D D' : Nat → Nat → Prop} {g : Nat → Nat → Int32} (h : fd_in N B o m D g) (hD : ∀ a b, a < 5 → b < 5 → (D a b ↔ D' a b)) : fd_in N B o m D' g := by
  cases o with
  | none => exact h
  | some P =>
    rcases h with hb | ⟨z, hr, hv⟩
    · exact Or.inl hb
    · exact Or.inr ⟨z, hr, fun i j hi hj => ⟨fun q => (hv i j hi hj).1 ((hD i j hi hj).2 q), fun q => (hv i j hi hj).2 (fun q' => q ((hD i j hi hj).1 q'))⟩⟩
/-- the beginning: the table of no bounds, then one bound a difference -/
theorem fd_pc0 {N B : Int} (hB : 0 ≤ B) {g : Nat → Nat → Int32} (h : ∀ i j, i < 5 → j < 5 → (g i j).toInt = if i = j then 0 else N) : fd_pc N B (some fd_P0) g := by
  refine ⟨fun i j hi hj => ?_, fun i j hi hj => ?_⟩
  · unfold fd_P0
    split <;> omega
  · have := h i j hi hj
    unfold fd_gw fd_P0
    split <;> split at this <;> omega
theorem fd_pcPut {N : Int} (hN : 1000000 ≤ N) {P : Nat → Nat → Int} {g g' : Nat → Nat → Int32} (h : fd_pc N 1001 (some P) g) (i j : Nat) (hi : i < 5) (hj : j < 5) (c : Int32) (h1 : -1001 ≤ c.toInt) (h2 : c.toInt ≤ 1001)
    (hg : ∀ a b, a < 5 → b < 5 → ¬ (a = i ∧ b = j) → g' a b = g a b) (hp : c.toInt < (g i j).toInt → g' i j = c) (hn : ¬ c.toInt < (g i j).toInt → g' i j = g i j) : fd_pc N 1001 (some (fd_put P i j c.toInt)) g' := by
  obtain ⟨hr, hv⟩ := h
  refine ⟨fun a b ha hb => ?_, fun a b ha hb => ?_⟩
  · have := hr a b ha hb
    unfold fd_put
    split <;> omega
  · by_cases e : a = i ∧ b = j
    · obtain ⟨rfl, rfl⟩ := e
      have e0 := hv a b ha hb
      have e1 := hr a b ha hb
      unfold fd_gw at e0
      unfold fd_gw fd_put
      by_cases t : c.toInt < (g a b).toInt
      · rw [hp t, if_pos ⟨rfl, rfl, by omega⟩]
        omega
      · rw [hn t, if_neg (fun q => by have := q.2.2; omega)]
        exact e0
    · have ep : fd_put P i j c.toInt a b = P a b := if_neg (fun q => e ⟨q.1, q.2.1⟩)
      rw [hg a b ha hb e, ep]
      exact hv a b ha hb
/-- the end: is a variable below itself -/
theorem fd_finB {N B : Int} {o : Option (Nat → Nat → Int)} {g : Nat → Nat → Int32} (hN : 0 ≤ N) (h : fd_pc N B o g) : (fd_bad g ↔ fd_fin o = none) ∧ ∀ P, fd_fin o = some P → ∀ i j, i < 5 → j < 5 → fd_gw N (P i j) (g i j) := by
  cases o with
  | none => exact ⟨⟨fun _ => rfl, fun _ => h⟩, fun P e => nomatch e⟩
  | some P =>
    obtain ⟨hr, hv⟩ := h
    have k : fd_bad g ↔ (P 0 0 < 0 ∨ P 1 1 < 0 ∨ P 2 2 < 0 ∨ P 3 3 < 0 ∨ P 4 4 < 0) := by
      have e : ∀ i, i < 5 → ((g i i).toInt < 0 ↔ P i i < 0) := by
        intro i hi
        have := hv i i hi hi
        unfold fd_gw at this
        omega
      constructor
      · rintro ⟨i, hi, hb⟩
        have hb' := (e i hi).1 hb
        have : i = 0 ∨ i = 1 ∨ i = 2 ∨ i = 3 ∨ i = 4 := by omega
        rcases this with rfl | rfl | rfl | rfl | rfl <;> simp [hb']
      · rintro (q | q | q | q | q)
        · exact ⟨0, by omega, (e 0 (by omega)).2 q⟩
        · exact ⟨1, by omega, (e 1 (by omega)).2 q⟩
        · exact ⟨2, by omega, (e 2 (by omega)).2 q⟩
        · exact ⟨3, by omega, (e 3 (by omega)).2 q⟩
        · exact ⟨4, by omega, (e 4 (by omega)).2 q⟩
    unfold fd_fin
    dsimp only
    by_cases z : P 0 0 < 0 ∨ P 1 1 < 0 ∨ P 2 2 < 0 ∨ P 3 3 < 0 ∨ P 4 4 < 0
    · rw [if_pos z]
      exact ⟨⟨fun _ => rfl, fun _ => k.2 z⟩, fun P e => nomatch e⟩
    · rw [if_neg z]
      exact ⟨⟨fun b => (z (k.1 b)).elim, fun e => nomatch e⟩, fun Q e => by cases e; exact hv⟩
end
section
/-! bits of patterns; literals -/
theorem fd_bn (p : Nat) {i : Nat} (hi : i < 32) : bt (nI p) i = p.testBit i := by
  unfold bt
  show (BitVec.ofNat 32 p).getLsbD i = _
  rw [BitVec.getLsbD_ofNat, decide_eq_true hi, Bool.true_and]
theorem fd_b2 (k : Nat) {i : Nat} (hi : i < 32) : bt (nI (2 ^ k)) i = decide (k = i) := by
  rw [fd_bn _ hi, Nat.testBit_two_pow]
theorem fd_b1 {i : Nat} (hi : i < 32) : bt 1 i = decide (0 = i) := fd_b2 0 hi
theorem fd_not (x : Int32) {i : Nat} (hi : i < 32) : bt (x ^^^ (-1)) i = !(bt x i) := by
  rw [b_xor, b_m1 i hi, Bool.xor_true]
theorem fd_a0 (x : Int32) {k : Nat} (hk : k < 32) : x &&& nI (2 ^ k) = 0 ↔ bt x k = false := by
  constructor
  · intro h
    have e := congrArg (fun z => bt z k) h
    simp only [b_and, fd_b2 k hk, b_0, decide_true, Bool.and_true] at e
    exact e
  · intro h
    apply b_ext
    intro i hi
    rw [b_and, fd_b2 k hi, b_0]
    by_cases e : k = i
    · subst e
      rw [h, Bool.false_and]
    · rw [decide_eq_false e, Bool.and_false]
theorem fd_a1 (x : Int32) {k : Nat} (hk : k < 32) : x &&& nI (2 ^ k) = nI (2 ^ k) ↔ bt x k = true := by
  constructor
  · intro h
    have e := congrArg (fun z => bt z k) h
    simp only [b_and, fd_b2 k hk, decide_true, Bool.and_true] at e
    exact e
  · intro h
    apply b_ext
    intro i hi
    rw [b_and, fd_b2 k hi]
    by_cases e : k = i
    · subst e
      rw [h, Bool.true_and]
    · rw [decide_eq_false e, Bool.and_false]
theorem fd_00 (x : Int32) : x &&& 0 = 0 := by
  apply b_ext
  intro i hi
  rw [b_and, b_0, Bool.and_false]
theorem fd_or0 (x a b : Int32) : x &&& (a ||| b) = 0 ↔ x &&& a = 0 ∧ x &&& b = 0 := by
  constructor
  · intro h
    constructor <;> (
      apply b_ext
      intro i hi
      have e := congrArg (fun z => bt z i) h
      simp only [b_and, b_or, b_0] at e ⊢
      revert e
      cases bt x i <;> cases bt a i <;> cases bt b i <;> decide)
  · rintro ⟨h, h2⟩
    apply b_ext
    intro i hi
    have e := congrArg (fun z => bt z i) h
    have e2 := congrArg (fun z => bt z i) h2
    simp only [b_and, b_or, b_0] at e e2 ⊢
    revert e e2
    cases bt x i <;> cases bt a i <;> cases bt b i <;> decide
theorem fd_or1 (x a b : Int32) : x &&& (a ||| b) = (a ||| b) ↔ x &&& a = a ∧ x &&& b = b := by
  constructor
  · intro h
    constructor <;> (
      apply b_ext
      intro i hi
      have e := congrArg (fun z => bt z i) h
      simp only [b_and, b_or] at e ⊢
      revert e
      cases bt x i <;> cases bt a i <;> cases bt b i <;> decide)
  · rintro ⟨h, h2⟩
    apply b_ext
    intro i hi
    have e := congrArg (fun z => bt z i) h
    have e2 := congrArg (fun z => bt z i) h2
    simp only [b_and, b_or] at e e2 ⊢
    revert e e2
    cases bt x i <;> cases bt a i <;> cases bt b i <;> decide
/-- one bit of x, as the programs take it -/
theorem fd_bit (x : Int32) {k : Nat} (hk : k < 32) : (x >>> (nI k &&& 31)) &&& 1 = if bt x k = true then 1 else 0 := by
  apply b_ext
  intro i hi
  rw [b_and, b_sshr k hk x hi, fd_b1 hi]
  by_cases e : 0 = i
  · subst e
    rw [Nat.add_zero, if_pos hk, decide_eq_true rfl, Bool.and_true]
    by_cases z : bt x k = true
    · rw [if_pos z, z, fd_b1 hi, decide_eq_true rfl]
    · rw [if_neg z, b_0]
      exact Bool.eq_false_iff.mpr z
  · rw [decide_eq_false e, Bool.and_false]
    split
    · rw [fd_b1 hi, decide_eq_false e]
    · rw [b_0]
theorem fd_bitN (p : Nat) {k : Nat} (hk : k < 32) : (nI p >>> (nI k &&& 31)) &&& 1 = if p.testBit k = true then 1 else 0 := by
  rw [fd_bit _ hk, fd_bn _ hk]
theorem fd_1l {k : Nat} (hk : k < 31) : (1 : Int32) <<< (nI k &&& 31) = nI (2 ^ k) := by
  have h : 1 * 2 ^ k < 2 ^ 32 := by
    rw [Nat.one_mul]
    exact Nat.pow_lt_pow_right (by decide) (by omega)
  have := pk_shlN (n := 1) (nI k &&& 31) k (s_l k (by omega)) h
  rw [Nat.one_mul] at this
  exact this
theorem fd_nIm1 {a : Nat} (ha : a < 2 ^ 31) : ¬ nI a = -1 := by
  intro h
  have := congrArg Int32.toInt h
  rw [nI_toInt ha, show (-1 : Int32).toInt = -1 from by decide] at this
  omega
/-- literals: l is -1 (none), or 2a or 2a+1 of an atom a < 10 -/
def fd_lt (l : Int32) : Prop := l = -1 ∨ ∃ a : Nat, a < 20 ∧ l = nI a
def fd_lh (p : Nat) (l : Int32) : Bool := if l = -1 then false else (p.testBit (l.toNatClampNeg / 2) == decide (l.toNatClampNeg % 2 = 0))
def fd_yb (l : Int32) : Int32 := if l = -1 then 0 else if l.toNatClampNeg % 2 = 0 then nI (2 ^ (l.toNatClampNeg / 2)) else 0
def fd_nb (l : Int32) : Int32 := if l = -1 then 0 else if l.toNatClampNeg % 2 = 0 then 0 else nI (2 ^ (l.toNatClampNeg / 2))
theorem fd_lhN (p : Nat) {a : Nat} (ha : a < 20) : fd_lh p (nI a) = (p.testBit (a / 2) == decide (a % 2 = 0)) := by
  unfold fd_lh
  rw [if_neg (fd_nIm1 (by omega)), nI_clamp (by omega)]
theorem fd_ybN {a : Nat} (ha : a < 20) : fd_yb (nI a) = if a % 2 = 0 then nI (2 ^ (a / 2)) else 0 := by
  unfold fd_yb
  rw [if_neg (fd_nIm1 (by omega)), nI_clamp (by omega)]
theorem fd_nbN {a : Nat} (ha : a < 20) : fd_nb (nI a) = if a % 2 = 0 then 0 else nI (2 ^ (a / 2)) := by
  unfold fd_nb
  rw [if_neg (fd_nIm1 (by omega)), nI_clamp (by omega)]
theorem fd_lit1 (p : Nat) {l : Int32} (hl : fd_lt l) : (nI p &&& fd_yb l = 0 ∧ (nI p ^^^ (-1)) &&& fd_nb l = 0) ↔ fd_lh p l = false := by
  rcases hl with rfl | ⟨a, ha, rfl⟩
  · simp [fd_yb, fd_nb, fd_lh, fd_00]
  · rw [fd_ybN ha, fd_nbN ha, fd_lhN p ha]
    by_cases e : a % 2 = 0
    · rw [if_pos e, if_pos e, decide_eq_true e, fd_a0 _ (by omega), fd_bn _ (by omega)]
      cases p.testBit (a / 2) <;> simp [fd_00]
    · rw [if_neg e, if_neg e, decide_eq_false e, fd_a0 _ (by omega), fd_not _ (by omega), fd_bn _ (by omega)]
      cases p.testBit (a / 2) <;> simp [fd_00]
theorem fd_lit2 (p : Nat) {l : Int32} (hl : fd_lt l) : (nI p &&& fd_yb l = fd_yb l ∧ nI p &&& fd_nb l = 0) ↔ (l = -1 ∨ fd_lh p l = true) := by
  rcases hl with rfl | ⟨a, ha, rfl⟩
  · simp [fd_yb, fd_nb, fd_00]
  · rw [fd_ybN ha, fd_nbN ha, fd_lhN p ha]
    have n1 := fd_nIm1 (a := a) (by omega)
    by_cases e : a % 2 = 0
    · rw [if_pos e, if_pos e, decide_eq_true e, fd_a1 _ (by omega), fd_bn _ (by omega)]
      cases p.testBit (a / 2) <;> simp [fd_00, n1]
    · rw [if_neg e, if_neg e, decide_eq_false e, fd_a0 _ (by omega), fd_bn _ (by omega)]
      cases p.testBit (a / 2) <;> simp [fd_00, n1]
theorem fd_lit3 (p : Nat) {a : Nat} (ha : a < 20) : (nI p &&& fd_nb (nI a) = fd_nb (nI a) ∧ nI p &&& fd_yb (nI a) = 0) ↔ fd_lh p (nI a) = false := by
  rw [fd_ybN ha, fd_nbN ha, fd_lhN p ha]
  by_cases e : a % 2 = 0
  · rw [if_pos e, if_pos e, decide_eq_true e, fd_a0 _ (by omega), fd_bn _ (by omega)]
    cases p.testBit (a / 2) <;> simp [fd_00]
  · rw [if_neg e, if_neg e, decide_eq_false e, fd_a1 _ (by omega), fd_bn _ (by omega)]
    cases p.testBit (a / 2) <;> simp [fd_00]
theorem fd_half {a : Nat} (ha : a < 20) : nI a / 2 = nI (a / 2) := pk_div (d := 2) (by omega) (by omega) (by omega)
theorem fd_odd {a : Nat} (ha : a < 20) : nI a - nI a / 2 * 2 = nI (a % 2) := pk_rem (d := 2) (by omega) (by omega) (by omega)
theorem fd_yholds (p : Nat) {a : Nat} (ha : a < 20) : ((nI p >>> ((nI a / 2) &&& 31)) &&& 1) = 1 - (nI a - nI a / 2 * 2) ↔ fd_lh p (nI a) = true := by
  rw [fd_odd ha, fd_half ha, fd_bitN p (by omega), fd_lhN p ha]
  rcases Nat.mod_two_eq_zero_or_one a with e | e
  · rw [e]
    cases p.testBit (a / 2) <;> decide
  · rw [e]
    cases p.testBit (a / 2) <;> decide
/-- the lowest bit in which two patterns differ -/
theorem fd_low : ∀ u, u < 1024 → u ≠ 0 → ∃ k, k < 10 ∧ nI u &&& -(nI u) = nI (2 ^ k) ∧ u.testBit k = true := by decide +kernel
theorem fd_bef {p q : Nat} (hp : p < 1024) (hq : q < 1024) (h : p ≠ q) : nI p &&& ((nI p ^^^ nI q) &&& -(nI p ^^^ nI q)) = 0 ↔ ¬ nI q &&& ((nI p ^^^ nI q) &&& -(nI p ^^^ nI q)) = 0 := by
  have hu : p ^^^ q < 1024 := Nat.xor_lt_two_pow (n := 10) hp hq
  have h0 : p ^^^ q ≠ 0 := fun z => h (Nat.eq_of_testBit_eq (fun i => by
    have e := congrArg (fun w => Nat.testBit w i) z
    simp only [Nat.testBit_xor, Nat.zero_testBit] at e
    revert e
    cases p.testBit i <;> cases q.testBit i <;> decide))
  obtain ⟨k, hk, e, ht⟩ := fd_low (p ^^^ q) hu h0
  rw [nx_xor, e, fd_a0 _ (by omega), fd_a0 _ (by omega), fd_bn _ (by omega), fd_bn _ (by omega)]
  rw [Nat.testBit_xor] at ht
  revert ht
  cases p.testBit k <;> cases q.testBit k <;> decide
end
section
/-! what both sides know of a state: the sound choices, the clauses, the possible patterns, the costs; folds -/
def fd_b (b : Bool) : Int32 := if b = true then 1 else 0
def fd_rs (L R C : Nat → Int32) (n ch : Nat) : Option (Nat → Nat → Int) := fd_res (fun d => (L d).toNatClampNeg) (fun d => (R d).toNatClampNeg) (fun d => (C d).toInt) n ch
/-- clause k of the literals holds in pattern p -/
def fd_c1 (lit : Nat → Int32) (p k : Nat) : Bool := fd_lh p (lit (4 * k)) || fd_lh p (lit (4 * k + 1)) || fd_lh p (lit (4 * k + 2)) || fd_lh p (lit (4 * k + 3))
/-- all of d, from i on; some of d, from i on -/
def fd_al (q : Nat → Bool) : Nat → Nat → Bool
  | 0, _ => true
  | d + 1, i => q i && fd_al q d (i + 1)
def fd_ex (q : Nat → Bool) : Nat → Nat → Bool
  | 0, _ => false
  | d + 1, i => q i || fd_ex q d (i + 1)
def fd_ps (L R C lit : Nat → Int32) (n c p : Nat) : Bool := (fd_rs L R C n (p / 32)).isSome && fd_al (fd_c1 lit p) c 0
theorem fd_exC {q q' : Nat → Bool} : ∀ d i, (∀ j, i ≤ j → j < i + d → q j = q' j) → fd_ex q d i = fd_ex q' d i
  | 0, _, _ => rfl
  | d + 1, i, h => by
    simp only [fd_ex]
    rw [h i (Nat.le_refl _) (by omega), fd_exC d (i + 1) (fun j h1 h2 => h j (by omega) (by omega))]
theorem fd_exI {q : Nat → Bool} : ∀ d i, fd_ex q d i = true ↔ ∃ j, i ≤ j ∧ j < i + d ∧ q j = true
  | 0, i => ⟨fun h => (nomatch h), fun ⟨j, h1, h2, _⟩ => by omega⟩
  | d + 1, i => by
    simp only [fd_ex, Bool.or_eq_true]
    rw [fd_exI d (i + 1)]
    constructor
    · rintro (h | ⟨j, h1, h2, h3⟩)
      · exact ⟨i, by omega, by omega, h⟩
      · exact ⟨j, by omega, by omega, h3⟩
    · rintro ⟨j, h1, h2, h3⟩
      by_cases e : j = i
      · subst e
        exact Or.inl h3
      · exact Or.inr ⟨j, by omega, by omega, h3⟩
/-- a fold forwards -/
def fd_lo {σ : Type} (f : Nat → σ → σ) : Nat → Nat → σ → σ
  | 0, _, s => s
  | d + 1, i, s => fd_lo f d (i + 1) (f i s)
theorem fd_loC {σ : Type} {f g : Nat → σ → σ} (I : Nat → σ → Prop) (e : Nat) (hI : ∀ i s, i < e → I i s → I (i + 1) (f i s)) (h : ∀ i s, i < e → I i s → f i s = g i s) : ∀ d i s, i + d = e → I i s → fd_lo f d i s = fd_lo g d i s
  | 0, _, _, _, _ => rfl
  | d + 1, i, s, hd, hi => by
    simp only [fd_lo]
    rw [fd_loC I e hI h d (i + 1) (f i s) (by omega) (hI i s (by omega) hi), h i s (by omega) hi]
theorem fd_loI {σ : Type} {f : Nat → σ → σ} (I : Nat → σ → Prop) (e : Nat) (hI : ∀ i s, i < e → I i s → I (i + 1) (f i s)) : ∀ d i s, i + d = e → I i s → I e (fd_lo f d i s)
  | 0, i, s, hd, hi => by
    have : i = e := by omega
    subst this
    exact hi
  | d + 1, i, s, hd, hi => fd_loI I e hI d (i + 1) (f i s) (by omega) (hI i s (by omega) hi)
/-- a printed loop that folds -/
theorem fd_run {σ : Type} (W : Nat → Nat → σ → Prop) (f : Nat → σ → σ) (I : Nat → σ → Prop) (e : Nat) (post : σ → Prop) (hI : ∀ i s, i < e → I i s → I (i + 1) (f i s)) (hx : ∀ n s, I e s → post s → W (n + 1) e s)
    (hs : ∀ n i s, i < e → I i s → W n (i + 1) (f i s) → W (n + 1) i s) : ∀ d i s, i + d = e → I i s → post (fd_lo f d i s) → W (d + 1) i s
  | 0, i, s, hd, hi, hp => by
    have : i = e := by omega
    subst this
    exact hx 0 s hi hp
  | d + 1, i, s, hd, hi, hp => hs (d + 1) i s (by omega) hi (fd_run W f I e post hI hx hs d (i + 1) (f i s) (by omega) (hI i s (by omega) hi) hp)
/-- a printed loop that looks for the first hit -/
theorem fd_look (W : Nat → Nat → Prop) (q : Nat → Bool) (e : Nat) (P1 P0 : Prop) (hx : ∀ n, P0 → W (n + 1) e) (ht : ∀ n i, i < e → q i = true → P1 → W (n + 1) i) (hf : ∀ n i, i < e → q i = false → W n (i + 1) → W (n + 1) i) :
    ∀ d i, i + d = e → (fd_ex q d i = true → P1) → (fd_ex q d i = false → P0) → W (d + 1) i
  | 0, i, hd, _, h0 => by
    have : i = e := by omega
    subst this
    exact hx 0 (h0 rfl)
  | d + 1, i, hd, h1, h0 => by
    simp only [fd_ex] at h1 h0
    cases z : q i with
    | true =>
      rw [z] at h1
      exact ht _ i (by omega) z (h1 rfl)
    | false =>
      rw [z] at h1 h0
      exact hf _ i (by omega) z (fd_look W q e P1 P0 hx ht hf d (i + 1) (by omega) h1 h0)
theorem fd_alx {q : Nat → Bool} : ∀ d i, fd_al q d i = !(fd_ex (fun j => !(q j)) d i)
  | 0, _ => rfl
  | d + 1, i => by
    simp only [fd_al, fd_ex, fd_alx d (i + 1)]
    cases q i <;> simp
/-- what a pattern costs -/
def fd_ct (pr : Nat → Int32) (p : Nat) : Nat → Nat
  | 0 => 0
  | a + 1 => fd_ct pr p a + (pr (if p.testBit a = true then 2 * a else 2 * a + 1)).toNatClampNeg
def fd_pr (pr : Nat → Int32) : Prop := ∀ k, ∃ m : Nat, m ≤ 1000 ∧ pr k = nI m
theorem fd_ctB {pr : Nat → Int32} (h : fd_pr pr) (p : Nat) : ∀ a, fd_ct pr p a ≤ 1000 * a
  | 0 => Nat.le_refl _
  | a + 1 => by
    have h1 := fd_ctB h p a
    obtain ⟨m, hm, e⟩ := h (if p.testBit a = true then 2 * a else 2 * a + 1)
    simp only [fd_ct]
    rw [e, nI_clamp (by omega)]
    omega
/-- the least cost of the possible patterns; the first of the chosen patterns -/
def fd_mn (ps : Nat → Bool) (ct : Nat → Nat) (i : Nat) (s : Int64) : Int64 := if ps i = true ∧ lN (ct i) < s then lN (ct i) else s
def fd_bf (p : Nat) (best : Int32) : Prop := nI p &&& ((nI p ^^^ best) &&& -(nI p ^^^ best)) = 0
noncomputable def fd_fs (q : Nat → Bool) (i : Nat) (s : Int32) : Int32 := @ite Int32 (q i = true ∧ (s = -1 ∨ fd_bf i s)) (Classical.propDecidable _) (nI i) s
def fd_cn (ps : Nat → Bool) (i : Nat) (s : Int32) : Int32 := if ps i = true then s + 1 else s
def fd_fI (i : Nat) (s : Int32) : Prop := s = -1 ∨ ∃ b : Nat, b < i ∧ s = nI b
theorem fd_fsI {q : Nat → Bool} {e : Nat} : ∀ i s, i < e → fd_fI i s → fd_fI (i + 1) (fd_fs q i s) := by
  intro i s hi h
  unfold fd_fs
  split
  · exact Or.inr ⟨i, by omega, rfl⟩
  · rcases h with h | ⟨b, hb, h⟩
    · exact Or.inl h
    · exact Or.inr ⟨b, by omega, h⟩
end
section
/-! settled and greatest: what each side's loop keeps, and that it fixes the answer -/
def fd_cb (q : Nat → Bool) : Nat → Nat
  | 0 => 0
  | k + 1 => fd_cb q k + (if q k = true then 1 else 0)
theorem fd_cbB (q : Nat → Bool) : ∀ k, fd_cb q k ≤ k
  | 0 => Nat.le_refl _
  | k + 1 => by
    have := fd_cbB q k
    simp only [fd_cb]
    split <;> omega
theorem fd_cbC {q q' : Nat → Bool} : ∀ k, (∀ j, j < k → q j = q' j) → fd_cb q k = fd_cb q' k
  | 0, _ => rfl
  | k + 1, h => by
    simp only [fd_cb]
    rw [fd_cbC k (fun j hj => h j (by omega)), h k (by omega)]
theorem fd_cbX {q : Nat → Bool} (A : Nat) : ∀ d, (∀ j, A ≤ j → j < A + d → q j = false) → fd_cb q (A + d) = fd_cb q A
  | 0, _ => rfl
  | d + 1, h => by
    show fd_cb q (A + d) + (if q (A + d) = true then 1 else 0) = _
    rw [fd_cbX A d (fun j h1 h2 => h j h1 (by omega)), h (A + d) (by omega) (by omega)]
    simp
def fd_sX (ps : Nat → Bool) (A q : Nat) (ay an f : Int32) : Prop :=
  (∀ k, k < 32 → (bt ay k = true ↔ k < A ∧ ∀ p, p < q → ps p = true → p.testBit k = true)) ∧
  (∀ k, k < 32 → (bt an k = true ↔ k < A ∧ ∀ p, p < q → ps p = true → p.testBit k = false)) ∧
  ((f = 1 ∧ ∃ p, p < q ∧ ps p = true) ∨ (f = 0 ∧ ∀ p, p < q → ps p = false))
def fd_sY (ps : Nat → Bool) (q : Nat) (y n : Int32) : Prop :=
  (∀ k, k < 32 → (bt y k = true ↔ ∃ p, p < q ∧ ps p = true ∧ p.testBit k = true)) ∧
  (∀ k, k < 32 → (bt n k = true ↔ ∃ p, p < q ∧ ps p = true ∧ p.testBit k = false))
theorem fd_sX0 {ps : Nat → Bool} {A : Nat} : fd_sX ps A 0 (nI (2 ^ A - 1)) (nI (2 ^ A - 1)) 0 := by
  have h : ∀ k, k < 32 → (bt (nI (2 ^ A - 1)) k = true ↔ k < A) := by
    intro k hk
    rw [fd_bn _ hk, Nat.testBit_two_pow_sub_one, decide_eq_true_eq]
  refine ⟨fun k hk => ?_, fun k hk => ?_, Or.inr ⟨rfl, fun p hp => by omega⟩⟩
  · rw [h k hk]
    exact ⟨fun z => ⟨z, fun p hp => by omega⟩, fun z => z.1⟩
  · rw [h k hk]
    exact ⟨fun z => ⟨z, fun p hp => by omega⟩, fun z => z.1⟩
theorem fd_sXt {ps : Nat → Bool} {A q : Nat} {ay an f : Int32} (h : fd_sX ps A q ay an f) (hq : ps q = true) : fd_sX ps A (q + 1) (ay &&& nI q) (an &&& (nI q ^^^ (-1))) 1 := by
  obtain ⟨h1, h2, h3⟩ := h
  refine ⟨fun k hk => ?_, fun k hk => ?_, Or.inl ⟨rfl, q, by omega, hq⟩⟩
  · rw [b_and, Bool.and_eq_true, h1 k hk, fd_bn _ hk]
    constructor
    · rintro ⟨⟨a, b⟩, c⟩
      refine ⟨a, fun p hp hs => ?_⟩
      by_cases e : p = q
      · rw [e]; exact c
      · exact b p (by omega) hs
    · rintro ⟨a, b⟩
      exact ⟨⟨a, fun p hp hs => b p (by omega) hs⟩, b q (by omega) hq⟩
  · rw [b_and, Bool.and_eq_true, h2 k hk, fd_not _ hk, fd_bn _ hk, Bool.not_eq_true']
    constructor
    · rintro ⟨⟨a, b⟩, c⟩
      refine ⟨a, fun p hp hs => ?_⟩
      by_cases e : p = q
      · rw [e]; exact c
      · exact b p (by omega) hs
    · rintro ⟨a, b⟩
      exact ⟨⟨a, fun p hp hs => b p (by omega) hs⟩, b q (by omega) hq⟩
theorem fd_sXf {ps : Nat → Bool} {A q : Nat} {ay an f : Int32} (h : fd_sX ps A q ay an f) (hq : ps q = false) : fd_sX ps A (q + 1) ay an f := by
  obtain ⟨h1, h2, h3⟩ := h
  have up : ∀ (G : Nat → Prop), (∀ p, p < q → ps p = true → G p) ↔ (∀ p, p < q + 1 → ps p = true → G p) := by
    intro G
    constructor
    · intro b p hp hs
      by_cases e : p = q
      · rw [e, hq] at hs
        exact nomatch hs
      · exact b p (by omega) hs
    · exact fun b p hp hs => b p (by omega) hs
  refine ⟨fun k hk => ?_, fun k hk => ?_, ?_⟩
  · rw [h1 k hk, up (fun p => p.testBit k = true)]
  · rw [h2 k hk, up (fun p => p.testBit k = false)]
  · rcases h3 with ⟨a, p, b, c⟩ | ⟨a, b⟩
    · exact Or.inl ⟨a, p, by omega, c⟩
    · refine Or.inr ⟨a, fun p hp => ?_⟩
      by_cases e : p = q
      · rw [e]; exact hq
      · exact b p (by omega)
theorem fd_sY0 {ps : Nat → Bool} : fd_sY ps 0 0 0 := by
  refine ⟨fun k hk => ?_, fun k hk => ?_⟩ <;> rw [b_0] <;> exact ⟨fun z => (nomatch z), fun ⟨p, hp, _⟩ => by omega⟩
theorem fd_sYt {ps : Nat → Bool} {q : Nat} {y n : Int32} (h : fd_sY ps q y n) (hq : ps q = true) : fd_sY ps (q + 1) (y ||| nI q) (n ||| (nI q ^^^ (-1))) := by
  obtain ⟨h1, h2⟩ := h
  refine ⟨fun k hk => ?_, fun k hk => ?_⟩
  · rw [b_or, Bool.or_eq_true, h1 k hk, fd_bn _ hk]
    constructor
    · rintro (⟨p, a, b⟩ | c)
      · exact ⟨p, by omega, b⟩
      · exact ⟨q, by omega, hq, c⟩
    · rintro ⟨p, a, b, c⟩
      by_cases e : p = q
      · rw [e] at c; exact Or.inr c
      · exact Or.inl ⟨p, by omega, b, c⟩
  · rw [b_or, Bool.or_eq_true, h2 k hk, fd_not _ hk, fd_bn _ hk, Bool.not_eq_true']
    constructor
    · rintro (⟨p, a, b⟩ | c)
      · exact ⟨p, by omega, b⟩
      · exact ⟨q, by omega, hq, c⟩
    · rintro ⟨p, a, b, c⟩
      by_cases e : p = q
      · rw [e] at c; exact Or.inr c
      · exact Or.inl ⟨p, by omega, b, c⟩
theorem fd_sYf {ps : Nat → Bool} {q : Nat} {y n : Int32} (h : fd_sY ps q y n) (hq : ps q = false) : fd_sY ps (q + 1) y n := by
  obtain ⟨h1, h2⟩ := h
  have up : ∀ (G : Nat → Prop), (∃ p, p < q ∧ ps p = true ∧ G p) ↔ (∃ p, p < q + 1 ∧ ps p = true ∧ G p) := by
    intro G
    constructor
    · rintro ⟨p, a, b⟩
      exact ⟨p, by omega, b⟩
    · rintro ⟨p, a, b, c⟩
      by_cases e : p = q
      · rw [e, hq] at b
        exact nomatch b
      · exact ⟨p, by omega, b, c⟩
  refine ⟨fun k hk => ?_, fun k hk => ?_⟩
  · rw [h1 k hk, up (fun p => p.testBit k = true)]
  · rw [h2 k hk, up (fun p => p.testBit k = false)]
theorem fd_sYn {ps : Nat → Bool} {q : Nat} {y n : Int32} (h : fd_sY ps q y n) (hq : ∀ p, p < q → ps p = false) : y ||| n = 0 := by
  apply b_ext
  intro i hi
  rw [b_or, b_0, Bool.or_eq_false_iff]
  constructor
  · refine Bool.eq_false_iff.mpr (fun z => ?_)
    obtain ⟨p, a, b, _⟩ := (h.1 i hi).1 z
    rw [hq p a] at b
    exact nomatch b
  · refine Bool.eq_false_iff.mpr (fun z => ?_)
    obtain ⟨p, a, b, _⟩ := (h.2 i hi).1 z
    rw [hq p a] at b
    exact nomatch b
theorem fd_sYs {ps : Nat → Bool} {q : Nat} {y n : Int32} (h : fd_sY ps q y n) (hq : ∃ p, p < q ∧ ps p = true) : ¬ y ||| n = 0 := by
  intro z
  obtain ⟨p, a, b⟩ := hq
  have e := congrArg (fun w => bt w 0) z
  simp only [b_or, b_0, Bool.or_eq_false_iff] at e
  cases t : p.testBit 0 with
  | true =>
    rw [(h.1 0 (by omega)).2 ⟨p, a, b, t⟩] at e
    exact nomatch e.1
  | false =>
    rw [(h.2 0 (by omega)).2 ⟨p, a, b, t⟩] at e
    exact nomatch e.2
theorem fd_set {ps : Nat → Bool} {A q : Nat} {ay an f y n : Int32} (hA : A ≤ 10) (hX : fd_sX ps A q ay an f) (hY : fd_sY ps q y n) (hq : ∃ p, p < q ∧ ps p = true) : fd_cb (bt (ay ||| an)) 10 = fd_cb (fun k => bt y k != bt n k) A := by
  obtain ⟨p0, a0, b0⟩ := hq
  have key : ∀ k, k < A → bt (ay ||| an) k = (bt y k != bt n k) := by
    intro k hk
    have x1 := hX.1 k (by omega)
    have x2 := hX.2.1 k (by omega)
    have y1 := hY.1 k (by omega)
    have y2 := hY.2 k (by omega)
    rw [b_or]
    cases t1 : bt y k with
    | true =>
      obtain ⟨p, a, b, c⟩ := y1.1 t1
      have z2 : bt an k = false := Bool.eq_false_iff.mpr (fun z => by
        have := (x2.1 z).2 p a b
        rw [c] at this
        exact nomatch this)
      rw [z2]
      cases t2 : bt n k with
      | true =>
        obtain ⟨p', a', b', c'⟩ := y2.1 t2
        have z1 : bt ay k = false := Bool.eq_false_iff.mpr (fun z => by
          have := (x1.1 z).2 p' a' b'
          rw [c'] at this
          exact nomatch this)
        rw [z1]
        rfl
      | false =>
        have z1 : bt ay k = true := x1.2 ⟨hk, fun p' a' b' => by
          cases s : p'.testBit k with
          | true => rfl
          | false =>
            rw [y2.2 ⟨p', a', b', s⟩] at t2
            exact nomatch t2⟩
        rw [z1]
        rfl
    | false =>
      have z2 : bt an k = true := x2.2 ⟨hk, fun p' a' b' => by
        cases s : p'.testBit k with
        | false => rfl
        | true =>
          rw [y1.2 ⟨p', a', b', s⟩] at t1
          exact nomatch t1⟩
      have t2 : bt n k = true := y2.2 ⟨p0, a0, b0, (x2.1 z2).2 p0 a0 b0⟩
      rw [z2, t2, Bool.or_true]
      rfl
  obtain ⟨d, hd⟩ : ∃ d, 10 = A + d := ⟨10 - A, by omega⟩
  rw [hd, fd_cbX A d ?_]
  · exact fd_cbC A key
  · intro j h1 h2
    rw [b_or, Bool.or_eq_false_iff]
    exact ⟨Bool.eq_false_iff.mpr (fun z => by have := ((hX.1 j (by omega)).1 z).1; omega), Bool.eq_false_iff.mpr (fun z => by have := ((hX.2.1 j (by omega)).1 z).1; omega)⟩
/-- greatest -/
def fd_vl (L R C : Nat → Int32) (n i j p : Nat) : Int := match fd_rs L R C n (p / 32) with
  | none => 0
  | some P => P i j
def fd_gI (ps : Nat → Bool) (vl : Nat → Int) (q : Nat) (best : Int64) : Prop :=
  (∀ p, p < q → ps p = true → vl p ≠ 1000000000) ∧ ((best = 3000000000 ∧ ∀ p, p < q → ps p = false) ∨ (∃ p, p < q ∧ ps p = true ∧ (best.toInt = vl p ∧ vl p < 2147483648) ∧ ∀ p', p' < q → ps p' = true → vl p' ≤ vl p))
def fd_gR (ps : Nat → Bool) (vl : Nat → Int) (q : Nat) (r : Int64) : Prop := (r = 3000000001 ∧ ∃ p, p < q ∧ ps p = true ∧ vl p = 1000000000) ∨ fd_gI ps vl q r
theorem fd_gU {ps : Nat → Bool} {vl : Nat → Int} {q : Nat} {r r' : Int64} (h : fd_gR ps vl q r) (h' : fd_gR ps vl q r') : r' = r := by
  rcases h with ⟨a, p, b, c, d⟩ | ⟨a, b⟩
  · rcases h' with ⟨a', _⟩ | ⟨a', _⟩
    · rw [a, a']
    · exact (a' p b c d).elim
  · rcases h' with ⟨_, p, b', c', d'⟩ | ⟨a', b'⟩
    · exact (a p b' c' d').elim
    · rcases b with ⟨e, f⟩ | ⟨p, e, f, g, k⟩
      · rcases b' with ⟨e', _⟩ | ⟨p', e', f', _⟩
        · rw [e, e']
        · rw [f p' e'] at f'
          exact nomatch f'
      · rcases b' with ⟨_, f'⟩ | ⟨p', e', f', g', k'⟩
        · rw [f' p e] at f
          exact nomatch f
        · have h1 := k p' e' f'
          have h2 := k' p e f
          exact Int64.toInt_inj.mp (by omega)
theorem fd_g0 {ps : Nat → Bool} {vl : Nat → Int} : fd_gI ps vl 0 3000000000 := ⟨fun p hp => by omega, Or.inl ⟨rfl, fun p hp => by omega⟩⟩
/-- a block q .. q' of patterns that share one value v -/
theorem fd_gS {ps : Nat → Bool} {vl : Nat → Int} {q q' : Nat} {best : Int64} (h : fd_gI ps vl q best) (hq : q ≤ q') (v : Int) (hv : ∀ p, q ≤ p → p < q' → vl p = v) (hs : ∃ p, q ≤ p ∧ p < q' ∧ ps p = true) (hb : v ≠ 1000000000) (best' : Int64) (hr : v < 2147483648)
    (ht : (best = 3000000000 ∨ best.toInt < v) → best'.toInt = v) (hf : ¬ best = 3000000000 → ¬ best.toInt < v → best' = best) : fd_gI ps vl q' best' := by
  obtain ⟨a, b⟩ := h
  obtain ⟨p0, h1, h2, h3⟩ := hs
  refine ⟨fun p hp hs => ?_, ?_⟩
  · by_cases e : p < q
    · exact a p e hs
    · rw [hv p (by omega) hp]
      exact hb
  · rcases b with ⟨c, d⟩ | ⟨p, c, d, e, f⟩
    · refine Or.inr ⟨p0, h2, h3, ?_, fun p' hp' hs' => ?_⟩
      · rw [ht (Or.inl c), hv p0 h1 h2]
        exact ⟨rfl, hr⟩
      · by_cases z : p' < q
        · rw [d p' z] at hs'
          exact nomatch hs'
        · rw [hv p' (by omega) hp', hv p0 h1 h2]
          exact Int.le_refl _
    · by_cases z : best = 3000000000 ∨ best.toInt < v
      · have z2 : best.toInt < v ∨ best.toInt = 3000000000 := z.elim (fun w => Or.inr (by rw [w]; decide)) Or.inl
        refine Or.inr ⟨p0, h2, h3, ?_, fun p' hp' hs' => ?_⟩
        · rw [ht z, hv p0 h1 h2]
          exact ⟨rfl, hr⟩
        · rw [hv p0 h1 h2]
          by_cases y : p' < q
          · have := f p' y hs'
            omega
          · rw [hv p' (by omega) hp']
            exact Int.le_refl _
      · refine Or.inr ⟨p, by omega, d, ?_, fun p' hp' hs' => ?_⟩
        · rw [hf (fun w => z (Or.inl w)) (fun w => z (Or.inr w))]
          exact e
        · by_cases y : p' < q
          · exact f p' y hs'
          · rw [hv p' (by omega) hp']
            have : ¬ best.toInt < v := fun w => z (Or.inr w)
            omega
/-- a block of patterns of which none is possible -/
theorem fd_gN {ps : Nat → Bool} {vl : Nat → Int} {q q' : Nat} {best : Int64} (h : fd_gI ps vl q best) (hq : q ≤ q') (hs : ∀ p, q ≤ p → p < q' → ps p = false) : fd_gI ps vl q' best := by
  obtain ⟨a, b⟩ := h
  have out : ∀ p, p < q' → ps p = true → p < q := by
    intro p hp hs'
    apply Classical.byContradiction
    intro w
    rw [hs p (by omega) hp] at hs'
    exact nomatch hs'
  refine ⟨fun p hp hs' => a p (out p hp hs') hs', ?_⟩
  rcases b with ⟨c, d⟩ | ⟨p, c, d, e, f⟩
  · refine Or.inl ⟨c, fun p hp => ?_⟩
    by_cases z : p < q
    · exact d p z
    · exact hs p (by omega) hp
  · exact Or.inr ⟨p, by omega, d, e, fun p' hp' hs' => f p' (out p' hp' hs') hs'⟩
end
section
/-! the component's matrix -/
section
variable {n c l : Nat} {aL aR aC aY aN aD aE aP aQ aB : Nat → Int32}
def fd_D (n : Nat) (aL aR aC : Nat → Int32) : Prop := n ≤ 5 ∧ ∀ d, (∃ i : Nat, i < 5 ∧ aL d = nI i) ∧ (∃ j : Nat, j < 5 ∧ aR d = nI j) ∧ -1000 ≤ (aC d).toInt ∧ (aC d).toInt ≤ 1000
theorem fd_ix (i j : Nat) : nI i * 5 + nI j = nI (5 * i + j) := by
  show nI i * nI 5 + nI j = _
  rw [pk_mul, nI_add, Nat.mul_comm]
theorem fd_ixI {i j : Nat} (hi : i < 5) (hj : j < 5) : vp_in (nI i * 5 + nI j) 25 := by
  rw [fd_ix]
  exact vp_in_nI (by omega) (by omega)
theorem fd_ixC {i j : Nat} (hi : i < 5) (hj : j < 5) : (nI i * 5 + nI j).toNatClampNeg = 5 * i + j := by
  rw [fd_ix]
  exact nI_clamp (by omega)
theorem fd_leI {x y : Int32} : x ≤ y ↔ x.toInt ≤ y.toInt := Int32.le_iff_toInt_le
theorem fd_ltI {x y : Int32} : x < y ↔ x.toInt < y.toInt := Int32.lt_iff_toInt_lt
theorem fd_z0 : (0 : Int32).toInt = 0 := by decide
theorem fd_z9 : (1000000000 : Int32).toInt = 1000000000 := by decide
theorem fd_z6 : (1000000 : Int32).toInt = 1000000 := by decide
theorem fd_eqI {x y : Int32} : x = y ↔ x.toInt = y.toInt := Int32.toInt_inj.symm
def fd_gX (b : Nat → Int32) : Nat → Nat → Int32 := fun i j => b (5 * i + j)
def fd_Bk : Nat → Int
  | 0 => 1001
  | k + 1 => 2 * fd_Bk k
theorem fd_BkB : ∀ i, i < 5 → 0 ≤ fd_Bk i ∧ fd_Bk i ≤ 16016 := by decide
theorem xc_clear {post : SX → Prop} (h : ∀ b : Nat → Int32, (∀ i j, i < 5 → j < 5 → (b (5 * i + j)).toInt = if i = j then 0 else 1000000000) → post (nI n, nI c, nI l, aL, aR, aC, aY, aN, aD, aE, aP, aQ, b)) : wpX_clearBounds post (nI n, nI c, nI l, aL, aR, aC, aY, aN, aD, aE, aP, aQ, aB) := by
  refine loop_0 (fun N i (b : Nat → Int32) => wX_clearBounds_2 post (nI n) (nI c) (nI l) N (nI i) aL aR aC aY aN aD aE aP aQ b) (fun i b => ∀ a j, a < i → j < 5 → (b (5 * a + j)).toInt = if a = j then 0 else 1000000000) 5 aB (fun a j ha => by omega) ?_ ?_
  · intro N b hb
    exact pk_le 5 5 (fun _ => h b hb) (fun z => by omega)
  · intro N i b hi hb next
    refine pk_le 5 i (fun z => by omega) (fun _ => ?_)
    refine loop_0 (fun M j (b : Nat → Int32) => wX_clearBounds_9 post (wX_clearBounds_2 post (nI n) (nI c) (nI l) N) (nI i) (nI n) (nI c) (nI l) M (nI j) aL aR aC aY aN aD aE aP aQ b) (fun k b => (∀ a j, a < i → j < 5 → (b (5 * a + j)).toInt = if a = j then 0 else 1000000000) ∧ ∀ j, j < k → (b (5 * i + j)).toInt = if i = j then 0 else 1000000000) 5 b ⟨hb, fun j hj => by omega⟩ ?_ ?_
    · intro M b' hb'
      refine pk_le 5 5 (fun _ => nm_r (nI_1 i) (next b' ?_)) (fun z => by omega)
      intro a j ha hj
      by_cases e : a = i
      · subst e
        exact hb'.2 j hj
      · exact hb'.1 a j (by omega) hj
    · intro M j b' hj hb' next'
      have put : ∀ v : Int32, v.toInt = (if i = j then 0 else 1000000000) → (∀ a j', a < i → j' < 5 → (upd b' (5 * i + j) v (5 * a + j')).toInt = if a = j' then 0 else 1000000000) ∧ ∀ j', j' < j + 1 → (upd b' (5 * i + j) v (5 * i + j')).toInt = if i = j' then 0 else 1000000000 := by
        intro v hv
        refine ⟨fun a j' ha hj' => ?_, fun j' hj' => ?_⟩
        · rw [pk_un (by omega)]
          exact hb'.1 a j' ha hj'
        · by_cases e : j' = j
          · subst e
            rw [pk_us]
            exact hv
          · rw [pk_un (by omega)]
            exact hb'.2 j' (by omega)
      refine pk_le 5 j (fun z => by omega) (fun _ => pk_eq i j (fun e => ?_) (fun e => ?_))
      · refine ⟨fd_ixI hi hj, nm_r (congrArg (fun k => upd b' k 0) (fd_ixC hi hj)) (nm_r (nI_1 j) (next' _ (put 0 ?_)))⟩
        rw [if_pos e]
        exact fd_z0
      · refine ⟨fd_ixI hi hj, nm_r (congrArg (fun k => upd b' k 1000000000) (fd_ixC hi hj)) (nm_r (nI_1 j) (next' _ (put 1000000000 ?_)))⟩
        rw [if_neg e]
        exact fd_z9
theorem xc_low {post : SX → Prop} {i j : Nat} (hi : i < 5) (hj : j < 5) (v : Int32) (h : ∀ b : Nat → Int32, (v.toInt < (aB (5 * i + j)).toInt → b (5 * i + j) = v) → (¬ v.toInt < (aB (5 * i + j)).toInt → b (5 * i + j) = aB (5 * i + j)) → (∀ k, k ≠ 5 * i + j → b k = aB k) → post (nI n, nI c, nI l, aL, aR, aC, aY, aN, aD, aE, aP, aQ, b)) : wpX_lowerBound post (nI n, nI c, nI l, aL, aR, aC, aY, aN, aD, aE, aP, aQ, aB) (nI i) (nI j) v := by
  refine nm_r (fd_ix i j) ?_
  have e : (nI (5 * i + j)).toNatClampNeg = 5 * i + j := nI_clamp (by omega)
  refine ⟨vp_in_nI (by omega) (by omega), ?_⟩
  rw [e]
  refine br_c (fun z => h aB (fun y => ?_) (fun _ => rfl) (fun _ _ => rfl)) (fun z => ⟨vp_in_nI (by omega) (by omega), nm_e (h _ (fun _ => pk_us) (fun y => ?_) (fun k hk => pk_un hk))⟩)
  · rw [fd_leI] at z
    omega
  · rw [fd_leI] at z
    omega
theorem xc_via {post : SX → Prop} {B : Int} (hB0 : 0 ≤ B) (hB : B ≤ 16016) {o : Option (Nat → Nat → Int)} {m : Nat} (hm : m < 5) (h0 : fd_pc 1000000000 B o (fd_gX aB)) (h : ∀ b : Nat → Int32, fd_pc 1000000000 (2 * B) (fd_vo m o) (fd_gX b) → post (nI n, nI c, nI l, aL, aR, aC, aY, aN, aD, aE, aP, aQ, b)) : wpX_tightenBoundsVia post (nI n, nI c, nI l, aL, aR, aC, aY, aN, aD, aE, aP, aQ, aB) (nI m) := by
  refine loop_0 (fun N i (b : Nat → Int32) => wX_tightenBoundsVia_2 post (nI m) N (nI i) (nI n) (nI c) (nI l) aL aR aC aY aN aD aE aP aQ b) (fun i b => fd_in 1000000000 B o m (fun a _ => a < i) (fd_gX b)) 5 aB (fd_inCong (fd_begin hm h0) (fun a b _ _ => ⟨fun f => f.elim, fun z => by omega⟩)) ?_ ?_
  · intro N b hb
    exact pk_le 5 5 (fun _ => h b (fd_end hm hB0 (fun a _ ha _ => ha) hb)) (fun z => by omega)
  · intro N i b hi hb next
    refine pk_le 5 i (fun z => by omega) (fun _ => ?_)
    refine loop_0 (fun M j (b : Nat → Int32) => wX_tightenBoundsVia_9 post (wX_tightenBoundsVia_2 post (nI m) N) (nI m) (nI i) M (nI j) (nI n) (nI c) (nI l) aL aR aC aY aN aD aE aP aQ b) (fun j b => fd_in 1000000000 B o m (fun a d => a < i ∨ (a = i ∧ d < j)) (fd_gX b)) 5 b (fd_inCong hb (fun a d _ _ => by omega)) ?_ ?_
    · intro M b' hb'
      exact pk_le 5 5 (fun _ => nm_r (nI_1 i) (next b' (fd_inCong hb' (fun a d _ hd => by omega)))) (fun z => by omega)
    · intro M j b' hj hb' next'
      have fin : ∀ b2 : Nat → Int32, ((fd_gX b2 i j).toInt ≤ (fd_gX b' i j).toInt) → (∀ k, k ≠ 5 * i + j → b2 k = b' k) → ((((fd_gX b' i m).toInt ≠ 1000000000 ∧ (fd_gX b' m j).toInt ≠ 1000000000 ∧ (fd_gX b' i m + fd_gX b' m j).toInt < (fd_gX b' i j).toInt) → fd_gX b2 i j = fd_gX b' i m + fd_gX b' m j) ∧
      (¬ ((fd_gX b' i m).toInt ≠ 1000000000 ∧ (fd_gX b' m j).toInt ≠ 1000000000 ∧ (fd_gX b' i m + fd_gX b' m j).toInt < (fd_gX b' i j).toInt) → fd_gX b2 i j = fd_gX b' i j)) → fd_in 1000000000 B o m (fun a d => a < i ∨ (a = i ∧ d < j + 1)) (fd_gX b2) := by
        intro b2 hle hk hd
        refine fd_inCong (fd_step (by omega) (by omega) hB0 hB hm hb' i j hi hj (fun a d ha hd' ne => hk _ (by omega)) hle (fun _ _ => hd)) (fun a d _ _ => by omega)
      refine pk_le 5 j (fun z => by omega) (fun _ => ⟨fd_ixI hi hm, nm_r (congrArg b' (fd_ixC hi hm)) ⟨fd_ixI hm hj, nm_r (congrArg b' (fd_ixC hm hj)) ?_⟩⟩)
      refine br_c (fun z => nm_r (nI_1 j) (next' b' (fin b' (Int.le_refl _) (fun _ _ => rfl) ⟨fun q => (q.1 ?_).elim, fun _ => rfl⟩))) (fun z => br_c (fun z' => nm_r (nI_1 j) (next' b' (fin b' (Int.le_refl _) (fun _ _ => rfl) ⟨fun q => (q.2.1 ?_).elim, fun _ => rfl⟩))) (fun z' => ?_))
      · show (b' (5 * i + m)).toInt = _
        rw [z]; exact fd_z9
      · show (b' (5 * m + j)).toInt = _
        rw [z']; exact fd_z9
      · refine xc_low hi hj _ (fun b2 h1 h2 h3 => ?_)
        refine nm_r (nI_1 j) (next' b2 (fin b2 ?_ h3 ⟨fun q => h1 q.2.2, fun q => h2 (fun q' => q ⟨fun w => z ?_, fun w => z' ?_, q'⟩)⟩))
        · show (b2 (5 * i + j)).toInt ≤ (b' (5 * i + j)).toInt
          by_cases t : (b' (5 * i + m) + b' (5 * m + j)).toInt < (b' (5 * i + j)).toInt
          · rw [h1 t]
            exact Int.le_of_lt t
          · rw [h2 t]
            exact Int.le_refl _
        · rw [fd_eqI, fd_z9]; exact w
        · rw [fd_eqI, fd_z9]; exact w
theorem xc_below {post : Int32 → Prop} (h1 : fd_bad (fd_gX aB) → post 1) (h0 : ¬ fd_bad (fd_gX aB) → post 0) : wpX_isAnyVariableBelowItself post (nI n, nI c, nI l, aL, aR, aC, aY, aN, aD, aE, aP, aQ, aB) := by
  have key := fd_look (fun N i => wX_isAnyVariableBelowItself_2 post (nI n) (nI c) (nI l) aL aR aC aY aN aD aE aP aQ aB N (nI i)) (fun i => decide ((aB (5 * i + i)).toInt < 0)) 5 (post 1) (post 0) ?_ ?_ ?_ 5 0 rfl ?_ ?_
  · exact ⟨6, key⟩
  · intro N hp
    exact pk_le 5 5 (fun _ => hp) (fun z => by omega)
  · intro N i hi hq hp
    refine pk_le 5 i (fun z => by omega) (fun _ => ⟨fd_ixI hi hi, br_f ?_ hp⟩)
    rw [fd_ixC hi hi, fd_leI, fd_z0]
    have := of_decide_eq_true hq
    omega
  · intro N i hi hq hp
    refine pk_le 5 i (fun z => by omega) (fun _ => ⟨fd_ixI hi hi, br_t ?_ (nm_r (nI_1 i) hp)⟩)
    rw [fd_ixC hi hi, fd_leI, fd_z0]
    have := of_decide_eq_false hq
    omega
  · intro e
    obtain ⟨i, _, hi, hq⟩ := (fd_exI 5 0).1 e
    exact h1 ⟨i, by omega, of_decide_eq_true hq⟩
  · intro e
    refine h0 (fun ⟨i, hi, hb⟩ => ?_)
    have := (fd_exI (q := fun i => decide ((aB (5 * i + i)).toInt < 0)) 5 0).2 ⟨i, by omega, by omega, decide_eq_true hb⟩
    rw [e] at this
    exact nomatch this
theorem xc_t81 {post : Int32 → SX → Prop} {o : Option (Nat → Nat → Int)} (h0 : fd_pc 1000000000 1001 o (fd_gX aB)) (h : ∀ b : Nat → Int32, (∀ P, fd_fin (fd_vn o 5) = some P → ∀ i j, i < 5 → j < 5 → fd_gw 1000000000 (P i j) (b (5 * i + j))) → post (fd_b (fd_fin (fd_vn o 5)).isSome) (nI n, nI c, nI l, aL, aR, aC, aY, aN, aD, aE, aP, aQ, b)) : ∃ N, wX_tightenBounds_81 post N 0 (nI n) (nI c) (nI l) aL aR aC aY aN aD aE aP aQ aB := by
  refine loop_0 (fun N i (b : Nat → Int32) => wX_tightenBounds_81 post N (nI i) (nI n) (nI c) (nI l) aL aR aC aY aN aD aE aP aQ b) (fun i b => fd_pc 1000000000 (fd_Bk i) (fd_vn o i) (fd_gX b)) 5 aB h0 ?_ ?_
  · intro N b hb
    obtain ⟨k1, k2⟩ := fd_finB (by omega) hb
    refine pk_le 5 5 (fun _ => xc_below (fun z => br_f (by decide) ?_) (fun z => br_t rfl ?_)) (fun z => by omega)
    · have := h b k2
      rw [k1.1 z] at this
      exact this
    · have := h b k2
      have e : (fd_fin (fd_vn o 5)).isSome = true := by
        cases q : fd_fin (fd_vn o 5) with
        | none => exact (z (k1.2 q)).elim
        | some P => rfl
      rw [e] at this
      exact this
  · intro N i b hi hb next
    refine pk_le 5 i (fun z => by omega) (fun _ => xc_via (B := fd_Bk i) (o := fd_vn o i) ?_ ?_ hi hb (fun b' hb' => nm_r (nI_1 i) (next b' ?_)))
    · exact (fd_BkB i hi).1
    · exact (fd_BkB i hi).2
    · exact hb'
theorem fd_cneg {v : Int32} (h1 : -1000 ≤ v.toInt) (h2 : v.toInt ≤ 1000) : (-v - 1).toInt = -v.toInt - 1 := by
  rw [Int32.toInt_sub, Int32.toInt_neg, show (1 : Int32).toInt = 1 from by decide]
  rw [Int.bmod_eq_of_le (n := -v.toInt) (by omega) (by omega)]
  exact Int.bmod_eq_of_le (by omega) (by omega)
theorem xc_tighten {post : Int32 → SX → Prop} (hD : fd_D n aL aR aC) (ch : Nat) (h : ∀ b : Nat → Int32, (∀ P, fd_rs aL aR aC n ch = some P → ∀ i j, i < 5 → j < 5 → fd_gw 1000000000 (P i j) (b (5 * i + j))) → post (fd_b (fd_rs aL aR aC n ch).isSome) (nI n, nI c, nI l, aL, aR, aC, aY, aN, aD, aE, aP, aQ, b)) : wpX_tightenBounds post (nI n, nI c, nI l, aL, aR, aC, aY, aN, aD, aE, aP, aQ, aB) (nI ch) := by
  obtain ⟨hn, hd⟩ := hD
  refine xc_clear (fun b0 hb0 => ?_)
  refine loop_0 (fun N i (b : Nat → Int32) => wX_tightenBounds_6 post (nI ch) N (nI i) (nI n) (nI c) (nI l) aL aR aC aY aN aD aE aP aQ b) (fun i b => fd_pc 1000000000 1001 (some (fd_ini (fun d => (aL d).toNatClampNeg) (fun d => (aR d).toNatClampNeg) (fun d => (aC d).toInt) ch i)) (fd_gX b)) n b0 (fd_pc0 (by omega) hb0) ?_ ?_
  · intro N b hb
    exact pk_le n n (fun _ => xc_t81 hb h) (fun z => by omega)
  · intro N i b hi hb next
    have ec : (nI i).toNatClampNeg = i := nI_clamp (by omega)
    have hin : vp_in (nI i) 5 := vp_in_nI (by omega) (by omega)
    obtain ⟨⟨li, hli, eL⟩, ⟨ri, hri, eR⟩, hc1, hc2⟩ := hd i
    have cL : (aL i).toNatClampNeg = li := by rw [eL]; exact nI_clamp (by omega)
    have cR : (aR i).toNatClampNeg = ri := by rw [eR]; exact nI_clamp (by omega)
    refine pk_le n i (fun z => by omega) (fun _ => ?_)
    rw [fd_bitN ch (by omega)]
    by_cases t : ch.testBit i = true
    · rw [if_pos t]
      refine br_t rfl ⟨hin, hin, hin, ?_⟩
      rw [ec, eL, eR]
      refine xc_low hli hri _ (fun b2 h1 h2 h3 => nm_r (nI_1 i) (next b2 ?_))
      have e : fd_ini (fun d => (aL d).toNatClampNeg) (fun d => (aR d).toNatClampNeg) (fun d => (aC d).toInt) ch (i + 1) = fd_put (fd_ini (fun d => (aL d).toNatClampNeg) (fun d => (aR d).toNatClampNeg) (fun d => (aC d).toInt) ch i) li ri (aC i).toInt := by
        show (if ch.testBit i = true then _ else _) = _
        rw [if_pos t]
        show fd_put _ (aL i).toNatClampNeg (aR i).toNatClampNeg _ = _
        rw [cL, cR]
      rw [e]
      exact fd_pcPut (by omega) hb li ri hli hri (aC i) (by omega) (by omega) (fun a d ha hd' ne => h3 _ (by omega)) h1 h2
    · rw [if_neg t]
      refine br_f (by decide) ⟨hin, hin, hin, ?_⟩
      rw [ec, eL, eR]
      have en := fd_cneg hc1 hc2
      refine xc_low hri hli _ (fun b2 h1 h2 h3 => nm_r (nI_1 i) (next b2 ?_))
      have e : fd_ini (fun d => (aL d).toNatClampNeg) (fun d => (aR d).toNatClampNeg) (fun d => (aC d).toInt) ch (i + 1) = fd_put (fd_ini (fun d => (aL d).toNatClampNeg) (fun d => (aR d).toNatClampNeg) (fun d => (aC d).toInt) ch i) ri li (-(aC i) - 1).toInt := by
        show (if ch.testBit i = true then _ else _) = _
        rw [if_neg t, en]
        show fd_put _ (aR i).toNatClampNeg (aL i).toNatClampNeg _ = _
        rw [cL, cR]
      rw [e]
      exact fd_pcPut (by omega) hb ri li hri hli (-(aC i) - 1) (by omega) (by omega) (fun a d ha hd' ne => h3 _ (by omega)) h1 h2
end
end
section
/-! the reference's matrix: way[25 ch + 5 j + i] -/
section
variable {n c l : Nat} {w : Int32} {aL aR aC aT aD aE aW aS aP : Nat → Int32}
def fd_gY (off : Nat) (b : Nat → Int32) : Nat → Nat → Int32 := fun i j => b (off + 5 * j + i)
theorem yc_bound {post : SY → Prop} {k : Nat} (hk : k < 800) (v : Int32) (h : ∀ b : Nat → Int32, (v.toInt < (aW k).toInt → b k = v) → (¬ v.toInt < (aW k).toInt → b k = aW k) → (∀ k', k' ≠ k → b k' = aW k') → post (nI n, nI c, nI l, w, aL, aR, aC, aT, aD, aE, b, aS, aP)) : wpY_bound post (nI n, nI c, nI l, w, aL, aR, aC, aT, aD, aE, aW, aS, aP) (nI k) v := by
  have e : (nI k).toNatClampNeg = k := nI_clamp (by omega)
  refine ⟨vp_in_nI hk (by omega), ?_⟩
  rw [e]
  refine br_c (fun z => h aW (fun y => ?_) (fun _ => rfl) (fun _ _ => rfl)) (fun z => ⟨vp_in_nI hk (by omega), nm_e (h _ (fun _ => pk_us) (fun y => ?_) (fun k hk => pk_un hk))⟩)
  · rw [fd_leI] at z
    omega
  · rw [fd_leI] at z
    omega
theorem fd_5 (a : Nat) : 5 * nI a = nI (5 * a) := pk_mul 5 a
theorem fd_6 (a : Nat) : 6 * nI a = nI (6 * a) := pk_mul 6 a
theorem fd_25 (a : Nat) : 25 * nI a = nI (25 * a) := pk_mul 25 a
theorem yc_w216 {post : Int32 → SY → Prop} {off : Nat} (hoff : off ≤ 775) (h1 : fd_bad (fd_gY off aW) → post 0 (nI n, nI c, nI l, w, aL, aR, aC, aT, aD, aE, aW, aS, aP)) (h0 : ¬ fd_bad (fd_gY off aW) → post 1 (nI n, nI c, nI l, w, aL, aR, aC, aT, aD, aE, aW, aS, aP)) : ∃ N, wY_ways_216 post (nI off) (nI n) (nI c) (nI l) w aL aR aC aT aD aE aW aS aP N 0 := by
  have ei : ∀ i, nI off + 6 * nI i = nI (off + 5 * i + i) := by
    intro i
    rw [fd_6, nI_add]
    exact congrArg nI (by omega)
  have key := fd_look (fun N i => wY_ways_216 post (nI off) (nI n) (nI c) (nI l) w aL aR aC aT aD aE aW aS aP N (nI i)) (fun i => decide ((aW (off + 5 * i + i)).toInt < 0)) 5 (post 0 (nI n, nI c, nI l, w, aL, aR, aC, aT, aD, aE, aW, aS, aP)) (post 1 (nI n, nI c, nI l, w, aL, aR, aC, aT, aD, aE, aW, aS, aP)) ?_ ?_ ?_ 5 0 rfl ?_ ?_
  · exact ⟨6, key⟩
  · intro N hp
    exact pk_le 5 5 (fun _ => hp) (fun z => by omega)
  · intro N i hi hq hp
    refine pk_le 5 i (fun z => by omega) (fun _ => ?_)
    rw [ei i]
    refine ⟨vp_in_nI (by omega) (by omega), br_f ?_ hp⟩
    rw [nI_clamp (by omega), fd_leI, fd_z0]
    have := of_decide_eq_true hq
    omega
  · intro N i hi hq hp
    refine pk_le 5 i (fun z => by omega) (fun _ => ?_)
    rw [ei i]
    refine ⟨vp_in_nI (by omega) (by omega), br_t ?_ (nm_r (nI_1 i) hp)⟩
    rw [nI_clamp (by omega), fd_leI, fd_z0]
    have := of_decide_eq_false hq
    omega
  · intro e
    obtain ⟨i, _, hi, hq⟩ := (fd_exI 5 0).1 e
    exact h1 ⟨i, by omega, of_decide_eq_true hq⟩
  · intro e
    refine h0 (fun ⟨i, hi, hb⟩ => ?_)
    have := (fd_exI (q := fun i => decide ((aW (off + 5 * i + i)).toInt < 0)) 5 0).2 ⟨i, by omega, by omega, decide_eq_true hb⟩
    rw [e] at this
    exact nomatch this
def fd_fr (off : Nat) (b b' : Nat → Int32) : Prop := ∀ k, k < off ∨ off + 25 ≤ k → b' k = b k
theorem yc_w134 {post : Int32 → SY → Prop} {J : Int32 → Int32 → Int32 → Int32 → Int32 → (Nat → Int32) → (Nat → Int32) → (Nat → Int32) → (Nat → Int32) → (Nat → Int32) → (Nat → Int32) → (Nat → Int32) → (Nat → Int32) → (Nat → Int32) → Prop} {off : Nat} (hoff : off ≤ 775) {B : Int} (hB0 : 0 ≤ B) (hB : B ≤ 16016) {o : Option (Nat → Nat → Int)} {m : Nat} (hm : m < 5) (h0 : fd_pc 1000000 B o (fd_gY off aW)) (h : ∀ b : Nat → Int32, fd_fr off aW b → fd_pc 1000000 (2 * B) (fd_vo m o) (fd_gY off b) → J (nI (m + 1)) (nI n) (nI c) (nI l) w aL aR aC aT aD aE b aS aP) : ∃ N, wY_ways_134 post J (nI off) (nI m) N 0 (nI n) (nI c) (nI l) w aL aR aC aT aD aE aW aS aP := by
  refine loop_0 (fun N k (b : Nat → Int32) => wY_ways_134 post J (nI off) (nI m) N (nI k) (nI n) (nI c) (nI l) w aL aR aC aT aD aE b aS aP) (fun k b => fd_fr off aW b ∧ fd_in 1000000 B o m (fun a d => 5 * d + a < k) (fd_gY off b)) 25 aW ⟨fun _ _ => rfl, fd_inCong (fd_begin hm h0) (fun a b _ _ => ⟨fun f => f.elim, fun z => by omega⟩)⟩ ?_ ?_
  · intro N b hb
    exact pk_le 25 25 (fun _ => nm_r (nI_1 m) (h b hb.1 (fd_end hm hB0 (fun a d ha hd => by omega) hb.2))) (fun z => by omega)
  · intro N k b' hk hb' next'
    obtain ⟨hfr, hin⟩ := hb'
    obtain ⟨i, hi, ek5⟩ : ∃ i, i < 5 ∧ k % 5 = i := ⟨k % 5, by omega, rfl⟩
    obtain ⟨j, hj, ekd⟩ : ∃ j, j < 5 ∧ k / 5 = j := ⟨k / 5, by omega, rfl⟩
    have ek : k = 5 * j + i := by omega
    have e1 : nI off + 5 * (nI k / 5) + nI m = nI (off + 5 * j + m) := by
      rw [show nI k / 5 = nI (k / 5) from pk_div (d := 5) (by omega) (by omega) (by omega), ekd, fd_5, nI_add, nI_add]
    have e2 : nI off + 5 * nI m + (nI k - nI k / 5 * 5) = nI (off + 5 * m + i) := by
      rw [show nI k - nI k / 5 * 5 = nI (k % 5) from pk_rem (d := 5) (by omega) (by omega) (by omega), ek5, fd_5, nI_add, nI_add]
    have e3 : nI off + nI k = nI (off + 5 * j + i) := by
      rw [nI_add]
      exact congrArg nI (by omega)
    have fin : ∀ b2 : Nat → Int32, ((fd_gY off b2 i j).toInt ≤ (fd_gY off b' i j).toInt) → (∀ k', k' ≠ off + 5 * j + i → b2 k' = b' k') →
      (((fd_gY off b' i m).toInt = 1000000 ∨ (fd_gY off b' i m).toInt ≤ 32032) → ((fd_gY off b' m j).toInt = 1000000 ∨ (fd_gY off b' m j).toInt ≤ 32032) → (((fd_gY off b' i m).toInt ≠ 1000000 ∧ (fd_gY off b' m j).toInt ≠ 1000000 ∧ (fd_gY off b' i m + fd_gY off b' m j).toInt < (fd_gY off b' i j).toInt) → fd_gY off b2 i j = fd_gY off b' i m + fd_gY off b' m j) ∧
      (¬ ((fd_gY off b' i m).toInt ≠ 1000000 ∧ (fd_gY off b' m j).toInt ≠ 1000000 ∧ (fd_gY off b' i m + fd_gY off b' m j).toInt < (fd_gY off b' i j).toInt) → fd_gY off b2 i j = fd_gY off b' i j)) → fd_fr off aW b2 ∧ fd_in 1000000 B o m (fun a d => 5 * d + a < k + 1) (fd_gY off b2) := by
      intro b2 hle hk' hd
      refine ⟨fun k' hk2 => ?_, fd_inCong (fd_step (by omega) (by omega) hB0 hB hm hin i j hi hj (fun a d ha hd' ne => hk' _ (by omega)) hle hd) (fun a d _ _ => by omega)⟩
      rw [hk' k' (by omega)]
      exact hfr k' hk2
    refine pk_le 25 k (fun z => by omega) (fun _ => ⟨by decide, ?_⟩)
    rw [e1]
    refine ⟨vp_in_nI (by omega) (by omega), nm_r (congrArg b' (nI_clamp (by omega))) ⟨by decide, ?_⟩⟩
    rw [e2, e3]
    refine ⟨vp_in_nI (by omega) (by omega), nm_r (congrArg b' (nI_clamp (by omega))) ?_⟩
    refine br_c (fun z => nm_r (nI_1 k) (next' b' (fin b' (Int.le_refl _) (fun _ _ => rfl) (fun g1 g2 => ⟨fun q => ?_, fun _ => rfl⟩)))) (fun z => br_c (fun z' => nm_r (nI_1 k) (next' b' (fin b' (Int.le_refl _) (fun _ _ => rfl) (fun g1 g2 => ⟨fun q => ?_, fun _ => rfl⟩)))) (fun z' => ?_))
    · rw [fd_leI, fd_z6] at z
      have g2' : (b' (off + 5 * j + m)).toInt = 1000000 ∨ (b' (off + 5 * j + m)).toInt ≤ 32032 := g2
      have q2 : (b' (off + 5 * j + m)).toInt ≠ 1000000 := q.2.1
      omega
    · rw [fd_leI, fd_z6] at z'
      have g2' : (b' (off + 5 * m + i)).toInt = 1000000 ∨ (b' (off + 5 * m + i)).toInt ≤ 32032 := g1
      have q2 : (b' (off + 5 * m + i)).toInt ≠ 1000000 := q.1
      omega
    · rw [fd_leI, fd_z6] at z z'
      refine yc_bound (by omega) _ (fun b2 h1 h2 h3 => ?_)
      rw [Int32.add_comm] at h1 h2
      refine nm_r (nI_1 k) (next' b2 (fin b2 ?_ h3 (fun g1 g2 => ⟨fun q => h1 q.2.2, fun q => h2 (fun q' => q ⟨fun e => z' ?_, fun e => z ?_, q'⟩)⟩)))
      · show (b2 (off + 5 * j + i)).toInt ≤ (b' (off + 5 * j + i)).toInt
        by_cases t : (b' (off + 5 * m + i) + b' (off + 5 * j + m)).toInt < (b' (off + 5 * j + i)).toInt
        · rw [h1 t]
          exact Int.le_of_lt t
        · rw [h2 t]
          exact Int.le_refl _
      · have e' : (b' (off + 5 * m + i)).toInt = 1000000 := e
        omega
      · have e' : (b' (off + 5 * j + m)).toInt = 1000000 := e
        omega
theorem yc_w126 {post : Int32 → SY → Prop} {off : Nat} (hoff : off ≤ 775) {o : Option (Nat → Nat → Int)} (h0 : fd_pc 1000000 1001 o (fd_gY off aW)) (h : ∀ b : Nat → Int32, fd_fr off aW b → (∀ P, fd_fin (fd_vn o 5) = some P → ∀ i j, i < 5 → j < 5 → fd_gw 1000000 (P i j) (b (off + 5 * j + i))) → post (fd_b (fd_fin (fd_vn o 5)).isSome) (nI n, nI c, nI l, w, aL, aR, aC, aT, aD, aE, b, aS, aP)) : ∃ N, wY_ways_126 post (nI off) N 0 (nI n) (nI c) (nI l) w aL aR aC aT aD aE aW aS aP := by
  refine loop_0 (fun N i (b : Nat → Int32) => wY_ways_126 post (nI off) N (nI i) (nI n) (nI c) (nI l) w aL aR aC aT aD aE b aS aP) (fun i b => fd_fr off aW b ∧ fd_pc 1000000 (fd_Bk i) (fd_vn o i) (fd_gY off b)) 5 aW ⟨fun _ _ => rfl, h0⟩ ?_ ?_
  · intro N b hb
    obtain ⟨k1, k2⟩ := fd_finB (by omega) hb.2
    refine pk_le 5 5 (fun _ => yc_w216 hoff (fun z => ?_) (fun z => ?_)) (fun z => by omega)
    · have := h b hb.1 k2
      rw [k1.1 z] at this
      exact this
    · have := h b hb.1 k2
      have e : (fd_fin (fd_vn o 5)).isSome = true := by
        cases q : fd_fin (fd_vn o 5) with
        | none => exact (z (k1.2 q)).elim
        | some P => rfl
      rw [e] at this
      exact this
  · intro N i b hi hb next
    refine pk_le 5 i (fun z => by omega) (fun _ => yc_w134 (B := fd_Bk i) (o := fd_vn o i) hoff ?_ ?_ hi hb.2 (fun b' hf hb' => next b' ⟨fun k hk => (hf k hk).trans (hb.1 k hk), ?_⟩))
    · exact (fd_BkB i hi).1
    · exact (fd_BkB i hi).2
    · exact hb'
theorem fd_cnegY {v : Int32} (h1 : -1000 ≤ v.toInt) (h2 : v.toInt ≤ 1000) : (-1 - v).toInt = -v.toInt - 1 := by
  rw [Int32.toInt_sub, show (-1 : Int32).toInt = -1 from by decide]
  rw [Int.bmod_eq_of_le (by omega) (by omega)]
  omega
theorem yc_ways {post : Int32 → SY → Prop} (hD : fd_D n aL aR aC) {ch : Nat} (hch : ch < 32) (h : ∀ b : Nat → Int32, fd_fr (25 * ch) aW b → (∀ P, fd_rs aL aR aC n ch = some P → ∀ i j, i < 5 → j < 5 → fd_gw 1000000 (P i j) (b (25 * ch + 5 * j + i))) → post (fd_b (fd_rs aL aR aC n ch).isSome) (nI n, nI c, nI l, w, aL, aR, aC, aT, aD, aE, b, aS, aP)) : wpY_ways post (nI n, nI c, nI l, w, aL, aR, aC, aT, aD, aE, aW, aS, aP) (nI ch) := by
  obtain ⟨hn, hd⟩ := hD
  refine nm_r (fd_25 ch) ?_
  obtain ⟨off, eoff⟩ : ∃ off, off = 25 * ch := ⟨_, rfl⟩
  rw [← eoff]
  have hoff : off ≤ 775 := by omega
  rw [← eoff] at h
  refine loop_0 (fun N k (b : Nat → Int32) => wY_ways_7 post (nI ch) (nI off) (nI n) (nI c) (nI l) w N (nI k) aL aR aC aT aD aE b aS aP) (fun k b => fd_fr off aW b ∧ ∀ k', k' < k → (b (off + k')).toInt = if k' % 6 = 0 then 0 else 1000000) 25 aW ⟨fun _ _ => rfl, fun k' hk' => by omega⟩ ?_ ?_
  · intro N b0 hb0
    refine pk_le 25 25 (fun _ => ?_) (fun z => by omega)
    refine loop_0 (fun N i (b : Nat → Int32) => wY_ways_42 post (nI ch) (nI off) N (nI i) (nI n) (nI c) (nI l) w aL aR aC aT aD aE b aS aP) (fun i b => fd_fr off aW b ∧ fd_pc 1000000 1001 (some (fd_ini (fun d => (aL d).toNatClampNeg) (fun d => (aR d).toNatClampNeg) (fun d => (aC d).toInt) ch i)) (fd_gY off b)) n b0 ⟨hb0.1, fd_pc0 (by omega) ?_⟩ ?_ ?_
    · intro i j hi hj
      show (b0 (off + 5 * j + i)).toInt = _
      have := hb0.2 (5 * j + i) (by omega)
      rw [← Nat.add_assoc] at this
      rw [this]
      by_cases e : i = j
      · rw [if_pos e, if_pos (by omega)]
      · rw [if_neg e, if_neg (by omega)]
    · intro N b hb
      exact pk_le n n (fun _ => yc_w126 hoff hb.2 (fun b' hf hg => h b' (fun k hk => (hf k hk).trans (hb.1 k hk)) hg)) (fun z => by omega)
    · intro N i b hi hb next
      have ec : (nI i).toNatClampNeg = i := nI_clamp (by omega)
      have hin : vp_in (nI i) 5 := vp_in_nI (by omega) (by omega)
      obtain ⟨⟨li, hli, eL⟩, ⟨ri, hri, eR⟩, hc1, hc2⟩ := hd i
      have cL : (aL i).toNatClampNeg = li := by rw [eL]; exact nI_clamp (by omega)
      have cR : (aR i).toNatClampNeg = ri := by rw [eR]; exact nI_clamp (by omega)
      have fr : ∀ (b2 : Nat → Int32) (k0 : Nat), off ≤ k0 → k0 < off + 25 → (∀ k', k' ≠ k0 → b2 k' = b k') → fd_fr off aW b2 := by
        intro b2 k0 q1 q2 q3 k hk
        rw [q3 k (by omega)]
        exact hb.1 k hk
      refine pk_le n i (fun z => by omega) (fun _ => ?_)
      rw [fd_bitN ch (by omega)]
      by_cases t : ch.testBit i = true
      · rw [if_pos t]
        refine br_t rfl ⟨hin, hin, hin, ?_⟩
        rw [ec, eL, eR, fd_5, nI_add, nI_add]
        refine yc_bound (by omega) _ (fun b2 h1 h2 h3 => nm_r (nI_1 i) (next b2 ⟨fr b2 _ (by omega) (by omega) h3, ?_⟩))
        have e : fd_ini (fun d => (aL d).toNatClampNeg) (fun d => (aR d).toNatClampNeg) (fun d => (aC d).toInt) ch (i + 1) = fd_put (fd_ini (fun d => (aL d).toNatClampNeg) (fun d => (aR d).toNatClampNeg) (fun d => (aC d).toInt) ch i) li ri (aC i).toInt := by
          show (if ch.testBit i = true then _ else _) = _
          rw [if_pos t]
          show fd_put _ (aL i).toNatClampNeg (aR i).toNatClampNeg _ = _
          rw [cL, cR]
        rw [e]
        exact fd_pcPut (by omega) hb.2 li ri hli hri (aC i) (by omega) (by omega) (fun a d ha hd' ne => h3 _ (by omega)) h1 h2
      · rw [if_neg t]
        refine br_f (by decide) ⟨hin, hin, hin, ?_⟩
        rw [ec, eL, eR, fd_5, nI_add, nI_add]
        have en := fd_cnegY hc1 hc2
        generalize -1 - aC i = vv at en ⊢
        refine yc_bound (by omega) _ (fun b2 h1 h2 h3 => nm_r (nI_1 i) (next b2 ⟨fr b2 _ (by omega) (by omega) h3, ?_⟩))
        have e : fd_ini (fun d => (aL d).toNatClampNeg) (fun d => (aR d).toNatClampNeg) (fun d => (aC d).toInt) ch (i + 1) = fd_put (fd_ini (fun d => (aL d).toNatClampNeg) (fun d => (aR d).toNatClampNeg) (fun d => (aC d).toInt) ch i) ri li vv.toInt := by
          show (if ch.testBit i = true then _ else _) = _
          rw [if_neg t, en]
          show fd_put _ (aR i).toNatClampNeg (aL i).toNatClampNeg _ = _
          rw [cL, cR]
        rw [e]
        exact fd_pcPut (by omega) hb.2 ri li hri hli vv (by omega) (by omega) (fun a d ha hd' ne => h3 _ (by omega)) h1 h2
  · intro N k b hk hb next
    have e3 : nI off + nI k = nI (off + k) := nI_add _ _
    have put : ∀ v : Int32, v.toInt = (if k % 6 = 0 then 0 else 1000000) → fd_fr off aW (upd b (off + k) v) ∧ ∀ k', k' < k + 1 → (upd b (off + k) v (off + k')).toInt = if k' % 6 = 0 then 0 else 1000000 := by
      intro v hv
      refine ⟨fun k' hk' => ?_, fun k' hk' => ?_⟩
      · rw [pk_un (by omega)]
        exact hb.1 k' hk'
      · by_cases e : k' = k
        · subst e
          rw [pk_us]
          exact hv
        · rw [pk_un (by omega)]
          exact hb.2 k' (by omega)
    refine pk_le 25 k (fun z => by omega) (fun _ => ⟨by decide, ?_⟩)
    rw [show nI k - nI k / 6 * 6 = nI (k % 6) from pk_rem (d := 6) (by omega) (by omega) (by omega), e3]
    refine pk_eq (k % 6) 0 (fun e => ?_) (fun e => ?_)
    · refine ⟨vp_in_nI (by omega) (by omega), nm_r (congrArg (fun q => upd b q 0) (nI_clamp (by omega))) (nm_r (nI_1 k) (next _ (put 0 ?_)))⟩
      rw [if_pos e]
      exact fd_z0
    · refine ⟨vp_in_nI (by omega) (by omega), nm_r (congrArg (fun q => upd b q 1000000) (nI_clamp (by omega))) (nm_r (nI_1 k) (next _ (put 1000000 ?_)))⟩
      rw [if_neg e]
      exact fd_z6
end
end
section
/-! the component: literals, clauses, the possible patterns -/
section
variable {n c l : Nat} {aL aR aC aY aN aD aE aP aQ aB aT : Nat → Int32}
def fd_isl (n : Nat) (v : Int32) : Prop := ∃ a : Nat, a < 10 + 2 * n ∧ v = nI a
def fd_may (n : Nat) (v : Int32) : Prop := v = -1 ∨ fd_isl n v
def fd_var (v : Int32) : Prop := ∃ i : Nat, i < 5 ∧ v = nI i
theorem fd_mayL {n : Nat} {v : Int32} (hn : n ≤ 5) (h : fd_may n v) : fd_lt v := by
  rcases h with h | ⟨a, ha, e⟩
  · exact Or.inl h
  · exact Or.inr ⟨a, by omega, e⟩
theorem fd_nneg {v : Int32} {a : Nat} (h : v < 0) (ha : a < 2 ^ 31) : ¬ v = nI a := fun e => nI_pos ha (e ▸ h)
theorem fd_ngt {v : Int32} {a b : Nat} (h : nI b ≤ v) (hab : a < b) (hb : b < 2 ^ 31) : ¬ v = nI a := by
  intro e
  rw [e, nI_leI hb (by omega)] at h
  omega
theorem fd_nlt0 {v : Int32} {b : Nat} (h : nI b ≤ v) (hb : b < 2 ^ 31) : ¬ v < 0 := by
  intro z
  have h1 := Int32.le_iff_toInt_le.mp h
  have h2 := Int32.lt_iff_toInt_lt.mp z
  rw [nI_toInt hb] at h1
  rw [show (0 : Int32).toInt = 0 from by decide] at h2
  omega
theorem fd_nle {v : Int32} {a b : Nat} (e : v = nI a) (hab : a < b) (hb : b < 2 ^ 31) : ¬ nI b ≤ v := by
  rw [e]
  exact nI_ge hab hb
theorem xc_isLit {post : Int32 → Prop} (hn : n ≤ 5) (v : Int32) (h1 : fd_isl n v → post 1) (h0 : ¬ fd_isl n v → post 0) : wpX_isLiteral post (nI n, nI c, nI l, aL, aR, aC, aY, aN, aD, aE, aP, aQ, aB) v := by
  have e : (2 : Int32) * (5 + nI n) = nI (10 + 2 * n) := by
    show nI 2 * (nI 5 + nI n) = _
    rw [nI_add, pk_mul]
    exact congrArg nI (by omega)
  rcases pk_ix v (n := 10 + 2 * n) (by omega) with z | z | ⟨j, hj, z⟩
  · exact br_t z (h0 (fun ⟨a, ha, e⟩ => fd_nneg z (by omega) e))
  · refine br_f (fd_nlt0 z (by omega)) ?_
    show ((2 : Int32) * (5 + nI n) ≤ v → post 0) ∧ (¬ (2 : Int32) * (5 + nI n) ≤ v → post 1)
    rw [e]
    exact br_t z (h0 (fun ⟨a, ha, e⟩ => fd_ngt z ha (by omega) e))
  · refine br_f (by rw [z]; exact nI_pos (by omega)) ?_
    show ((2 : Int32) * (5 + nI n) ≤ v → post 0) ∧ (¬ (2 : Int32) * (5 + nI n) ≤ v → post 1)
    rw [e]
    exact br_f (fd_nle z hj (by omega)) (h1 ⟨j, hj, z⟩)
theorem xc_may {post : Int32 → Prop} (hn : n ≤ 5) (v : Int32) (h1 : fd_may n v → post 1) (h0 : ¬ fd_may n v → post 0) : wpX_mayBeGiven post (nI n, nI c, nI l, aL, aR, aC, aY, aN, aD, aE, aP, aQ, aB) v := by
  refine br_c (fun z => h1 (Or.inl z)) (fun z => ?_)
  exact xc_isLit hn v (fun q => br_f (by decide) (h1 (Or.inr q))) (fun q => br_t rfl (h0 (fun q' => q'.elim z q)))
theorem xc_two {post : Int32 → Prop} (v1 v2 : Int32) (h1 : fd_var v1 ∧ fd_var v2 ∧ ¬ v1 = v2 → post 1) (h0 : ¬ (fd_var v1 ∧ fd_var v2 ∧ ¬ v1 = v2) → post 0) : wpX_areTwoVariables post (nI n, nI c, nI l, aL, aR, aC, aY, aN, aD, aE, aP, aQ, aB) v1 v2 := by
  rcases pk_ix v1 (n := 5) (by omega) with z | z | ⟨i, hi, z⟩
  · exact br_t z (h0 (fun ⟨⟨a, ha, e⟩, _⟩ => fd_nneg z (by omega) e))
  · exact br_f (fd_nlt0 z (by omega)) (br_t z (h0 (fun ⟨⟨a, ha, e⟩, _⟩ => fd_ngt z ha (by omega) e)))
  · refine br_f (by rw [z]; exact nI_pos (by omega)) (br_f (fd_nle (b := 5) z hi (by decide)) ?_)
    rcases pk_ix v2 (n := 5) (by omega) with y | y | ⟨j, hj, y⟩
    · exact br_t y (h0 (fun ⟨_, ⟨a, ha, e⟩, _⟩ => fd_nneg y (by omega) e))
    · exact br_f (fd_nlt0 y (by omega)) (br_t y (h0 (fun ⟨_, ⟨a, ha, e⟩, _⟩ => fd_ngt y ha (by omega) e)))
    · exact br_f (by rw [y]; exact nI_pos (by omega)) (br_f (fd_nle (b := 5) y hj (by decide)) (br_c (fun q => h0 (fun ⟨_, _, q'⟩ => q' q)) (fun q => h1 ⟨⟨i, hi, z⟩, ⟨j, hj, y⟩, q⟩)))
theorem xc_yes {post : Int32 → Prop} {v : Int32} (hv : fd_lt v) (h : post (fd_yb v)) : wpX_yesBit post (nI n, nI c, nI l, aL, aR, aC, aY, aN, aD, aE, aP, aQ, aB) v := by
  rcases hv with rfl | ⟨a, ha, rfl⟩
  · exact br_t (by decide) h
  · rw [fd_ybN ha] at h
    refine br_f (nI_pos (by omega)) ⟨by decide, ?_⟩
    rw [fd_odd ha, fd_half ha, fd_1l (by omega)]
    refine pk_eq (a % 2) 0 (fun e => ⟨by decide, ?_⟩) (fun e => ?_)
    · rw [if_pos e] at h
      exact h
    · rw [if_neg e] at h
      exact h
theorem xc_no {post : Int32 → Prop} {v : Int32} (hv : fd_lt v) (h : post (fd_nb v)) : wpX_noBit post (nI n, nI c, nI l, aL, aR, aC, aY, aN, aD, aE, aP, aQ, aB) v := by
  rcases hv with rfl | ⟨a, ha, rfl⟩
  · exact br_t (by decide) h
  · rw [fd_nbN ha] at h
    refine br_f (nI_pos (by omega)) ⟨by decide, ?_⟩
    rw [fd_odd ha, fd_half ha, fd_1l (by omega)]
    refine pk_eq (a % 2) 1 (fun e => ⟨by decide, ?_⟩) (fun e => ?_)
    · rw [if_neg (by omega)] at h
      exact h
    · rw [if_pos (by omega)] at h
      exact h
def fd_cr (aY aN aT : Nat → Int32) (k : Nat) : Prop := ∀ p, p < 1024 → ((nI p &&& aY k = 0 ∧ (nI p ^^^ (-1)) &&& aN k = 0) ↔ fd_c1 aT p k = false)
def fd_BX (n c : Nat) (aL aR aC aT aY aN : Nat → Int32) : Prop := fd_D n aL aR aC ∧ c ≤ 24 ∧ ∀ k, k < c → fd_cr aY aN aT k
theorem xc_cls {post : Int32 → Prop} (hX : fd_BX n c aL aR aC aT aY aN) {p : Nat} (hp : p < 1024) (h : post (fd_b (fd_al (fd_c1 aT p) c 0))) : wpX_allClausesHold post (nI n, nI c, nI l, aL, aR, aC, aY, aN, aD, aE, aP, aQ, aB) (nI p) := by
  obtain ⟨_, hc, hcr⟩ := hX
  rw [fd_alx] at h
  have key := fd_look (fun N i => wX_allClausesHold_2 post (nI p) (nI n) (nI c) (nI l) aL aR aC aY aN aD aE aP aQ aB N (nI i)) (fun k => !(fd_c1 aT p k)) c (post 0) (post 1) ?_ ?_ ?_ c 0 (by omega) ?_ ?_
  · exact ⟨c + 1, key⟩
  · intro N hp
    exact pk_le c c (fun _ => hp) (fun z => by omega)
  · intro N i hi hq hp'
    have ec : (nI i).toNatClampNeg = i := nI_clamp (by omega)
    have hin : vp_in (nI i) 24 := vp_in_nI (by omega) (by omega)
    rw [Bool.not_eq_true'] at hq
    have hh := (hcr i hi p hp).2 hq
    refine pk_le c i (fun z => by omega) (fun _ => ⟨hin, ?_⟩)
    rw [ec]
    exact br_t hh.1 ⟨hin, br_t hh.2 hp'⟩
  · intro N i hi hq hp'
    have ec : (nI i).toNatClampNeg = i := nI_clamp (by omega)
    have hin : vp_in (nI i) 24 := vp_in_nI (by omega) (by omega)
    rw [Bool.not_eq_false'] at hq
    have hh : ¬ (nI p &&& aY i = 0 ∧ (nI p ^^^ (-1)) &&& aN i = 0) := fun q => by
      have := (hcr i hi p hp).1 q
      rw [hq] at this
      exact nomatch this
    refine pk_le c i (fun z => by omega) (fun _ => ⟨hin, ?_⟩)
    rw [ec]
    refine br_c (fun q => ⟨hin, br_f (fun q' => hh ⟨q, q'⟩) (nm_r (nI_1 i) hp')⟩) (fun q => nm_r (nI_1 i) hp')
  · intro e
    rw [e] at h
    exact h
  · intro e
    rw [e] at h
    exact h
theorem fd_pat : ∀ ch, ch < 32 → ∀ t, t < 32 → (nI ch <<< ((5 : Int32) &&& 31)) ||| nI t = nI (32 * ch + t) := by decide +kernel
theorem fd_nar0 : vp_nar .boolean 0 = 0 := by first | rfl | decide
theorem fd_nar1 : vp_nar .boolean 1 = 1 := by first | rfl | decide
theorem fd_2n {n : Nat} (hn : n ≤ 5) : 1 ≤ 2 ^ n ∧ 2 ^ n ≤ 32 := ⟨Nat.one_le_two_pow, Nat.pow_le_pow_right (n := 2) (by decide) hn⟩
theorem xc_dpc {post : Int32 → Prop} (hn : n ≤ 5) (h : post (nI (2 ^ n))) : wpX_differencePatternCount post (nI n, nI c, nI l, aL, aR, aC, aY, aN, aD, aE, aP, aQ, aB) := by
  show post ((1 : Int32) <<< (nI n &&& 31))
  rw [fd_1l (by omega)]
  exact h
theorem xc_ac {post : Int32 → Prop} (h : post (nI (5 + n))) : wpX_atomCount post (nI n, nI c, nI l, aL, aR, aC, aY, aN, aD, aE, aP, aQ, aB) := by
  show post (nI 5 + nI n)
  rw [nI_add]
  exact h
theorem xc_pc {post : Int32 → Prop} (hn : n ≤ 5) (h : post (nI (32 * 2 ^ n))) : wpX_patternCount post (nI n, nI c, nI l, aL, aR, aC, aY, aN, aD, aE, aP, aQ, aB) := by
  unfold wpX_patternCount
  dsimp only
  refine xc_ac ?_
  rw [fd_1l (by omega), Nat.pow_add]
  exact h
theorem xc_mark {post : SX → Prop} (hX : fd_BX n c aL aR aC aT aY aN) (h : ∀ q b : Nat → Int32, (∀ p, p < 32 * 2 ^ n → q p = fd_b (fd_ps aL aR aC aT n c p)) → post (nI n, nI c, nI l, aL, aR, aC, aY, aN, aD, aE, aP, q, b)) : wpX_markPossible post (nI n, nI c, nI l, aL, aR, aC, aY, aN, aD, aE, aP, aQ, aB) := by
  have hn := hX.1.1
  have h2 := fd_2n hn
  unfold wpX_markPossible
  dsimp only
  refine xc_dpc hn ?_
  refine loop_0 (fun N ch (s : (Nat → Int32) × (Nat → Int32)) => wX_markPossible_7 post (nI (2 ^ n)) N (nI ch) (nI n) (nI c) (nI l) aL aR aC aY aN aD aE aP s.1 s.2) (fun ch s => ∀ p, p < 32 * ch → s.1 p = fd_b (fd_ps aL aR aC aT n c p)) (2 ^ n) (aQ, aB) (fun p hp => by omega) ?_ ?_
  · intro N s hs
    exact pk_le (2 ^ n) (2 ^ n) (fun _ => h s.1 s.2 hs) (fun z => by omega)
  · intro N ch s hch hs next
    refine pk_le (2 ^ n) ch (fun z => by omega) (fun _ => xc_tighten hX.1 ch (fun b hb => ?_))
    refine loop_0 (fun M t (q : Nat → Int32) => wX_markPossible_21 post (wX_markPossible_7 post (nI (2 ^ n)) N) (nI (2 ^ n)) (nI ch) (fd_b (fd_rs aL aR aC n ch).isSome) (nI n) (nI c) (nI l) M (nI t) aL aR aC aY aN aD aE aP q b) (fun t q => ∀ p, p < 32 * ch + t → q p = fd_b (fd_ps aL aR aC aT n c p)) 32 s.1 hs ?_ ?_
    · intro M q hq
      exact pk_le 32 32 (fun _ => nm_r (nI_1 ch) (next (q, b) (fun p hp => hq p (by omega)))) (fun z => by omega)
    · intro M t q ht hq next'
      have put : ∀ v : Int32, v = fd_b (fd_ps aL aR aC aT n c (32 * ch + t)) → ∀ p, p < 32 * ch + (t + 1) → upd q (32 * ch + t) v p = fd_b (fd_ps aL aR aC aT n c p) := by
        intro v hv p hp
        by_cases e : p = 32 * ch + t
        · rw [e, pk_us]
          exact hv
        · rw [pk_un e]
          exact hq p (by omega)
      have eps : fd_ps aL aR aC aT n c (32 * ch + t) = ((fd_rs aL aR aC n ch).isSome && fd_al (fd_c1 aT (32 * ch + t)) c 0) := by
        unfold fd_ps
        rw [show (32 * ch + t) / 32 = ch from by omega]
      have hin : vp_in (nI (32 * ch + t)) 1024 := vp_in_nI (by omega) (by omega)
      have ec : (nI (32 * ch + t)).toNatClampNeg = 32 * ch + t := nI_clamp (by omega)
      have e0 : upd q (nI (32 * ch + t)).toNatClampNeg (vp_nar .boolean 0) = upd q (32 * ch + t) 0 := by rw [ec, fd_nar0]
      have e1 : upd q (nI (32 * ch + t)).toNatClampNeg (vp_nar .boolean 1) = upd q (32 * ch + t) 1 := by rw [ec, fd_nar1]
      refine pk_le 32 t (fun z => by omega) (fun _ => nm_r (fd_pat ch (by omega) t ht) ?_)
      cases er : (fd_rs aL aR aC n ch).isSome with
      | false =>
        rw [er] at eps
        refine br_t rfl ⟨hin, nm_r e0 (nm_r (nI_1 t) ?_)⟩
        have := next' _ (put 0 (by rw [eps]; rfl))
        rw [er] at this
        exact this
      | true =>
        rw [er, Bool.true_and] at eps
        refine br_f (by decide) (xc_cls hX (p := 32 * ch + t) (by omega) ?_)
        cases ea : fd_al (fd_c1 aT (32 * ch + t)) c 0 with
        | false =>
          rw [ea] at eps
          refine br_t rfl ⟨hin, nm_r e0 (nm_r (nI_1 t) ?_)⟩
          have := next' _ (put 0 (by rw [eps]; rfl))
          rw [er] at this
          exact this
        | true =>
          rw [ea] at eps
          refine br_f (by decide) ⟨hin, nm_r e1 (nm_r (nI_1 t) ?_)⟩
          have := next' _ (put 1 (by rw [eps]; rfl))
          rw [er] at this
          exact this
end
end
section
/-! the reference: literals, the tables, the possible patterns -/
section
variable {n c l : Nat} {w : Int32} {aL aR aC aT aD aE aW aS aP : Nat → Int32}
theorem yc_isLit {post : Int32 → Prop} (hn : n ≤ 5) (v : Int32) (h1 : fd_isl n v → post 1) (h0 : ¬ fd_isl n v → post 0) : wpY_isLiteral post (nI n, nI c, nI l, w, aL, aR, aC, aT, aD, aE, aW, aS, aP) v := by
  have e : (10 : Int32) + (2 * nI n) = nI (10 + 2 * n) := by
    show nI 10 + nI 2 * nI n = _
    rw [pk_mul, nI_add]
  rcases pk_ix v (n := 10 + 2 * n) (by omega) with z | z | ⟨j, hj, z⟩
  · exact br_t z (h0 (fun ⟨a, ha, e⟩ => fd_nneg z (by omega) e))
  · refine br_f (fd_nlt0 z (by omega)) ?_
    rw [e]
    exact br_t z (h0 (fun ⟨a, ha, e⟩ => fd_ngt z ha (by omega) e))
  · refine br_f (by rw [z]; exact nI_pos (by omega)) ?_
    rw [e]
    exact br_f (fd_nle z hj (by omega)) (h1 ⟨j, hj, z⟩)
theorem yc_may {post : Int32 → Prop} (hn : n ≤ 5) (v : Int32) (h1 : fd_may n v → post 1) (h0 : ¬ fd_may n v → post 0) : wpY_isPart post (nI n, nI c, nI l, w, aL, aR, aC, aT, aD, aE, aW, aS, aP) v := by
  refine br_c (fun z => h1 (Or.inl z)) (fun z => ?_)
  exact yc_isLit hn v (fun q => br_f (by decide) (h1 (Or.inr q))) (fun q => br_t rfl (h0 (fun q' => q'.elim z q)))
theorem yc_var {post : Int32 → Prop} (v : Int32) (h1 : fd_var v → post 1) (h0 : ¬ fd_var v → post 0) : wpY_isVariable post v := by
  rcases pk_ix v (n := 5) (by omega) with z | z | ⟨i, hi, z⟩
  · exact br_t z (h0 (fun ⟨a, ha, e⟩ => fd_nneg z (by omega) e))
  · refine br_f (fd_nlt0 z (by decide)) (br_t ?_ (h0 (fun ⟨a, ha, e⟩ => fd_ngt z ha (by decide) e)))
    rw [fd_ltI]
    rw [fd_leI] at z
    have e4 : (4 : Int32).toInt = 4 := by decide
    have e5 : (nI 5).toInt = 5 := by decide
    omega
  · refine br_f (by rw [z]; exact nI_pos (by omega)) (br_f ?_ (h1 ⟨i, hi, z⟩))
    rw [z]
    exact nI_nlt (a := 4) (by omega) (by omega)
def fd_tab (n : Nat) (aL aR aC aW aS : Nat → Int32) : Prop := ∀ ch, ch < 2 ^ n → aS ch = fd_b (fd_rs aL aR aC n ch).isSome ∧ ∀ P, fd_rs aL aR aC n ch = some P → ∀ i j, i < 5 → j < 5 → fd_gw 1000000 (P i j) (aW (25 * ch + 5 * j + i))
def fd_BY (n c : Nat) (w : Int32) (aL aR aC aT aW aS : Nat → Int32) : Prop := fd_D n aL aR aC ∧ c ≤ 24 ∧ (∀ k, k < 4 * c → fd_lt (aT k)) ∧ (w = nI n → fd_tab n aL aR aC aW aS)
theorem fd_narb (b : Bool) : vp_nar .boolean (fd_b b) = fd_b b := by
  cases b
  · exact fd_nar0
  · exact fd_nar1
theorem yc_work {post : SY → Prop} (hD : fd_D n aL aR aC) (hT : w = nI n → fd_tab n aL aR aC aW aS) (h : ∀ b s : Nat → Int32, fd_tab n aL aR aC b s → post (nI n, nI c, nI l, nI n, aL, aR, aC, aT, aD, aE, b, s, aP)) : wpY_work post (nI n, nI c, nI l, w, aL, aR, aC, aT, aD, aE, aW, aS, aP) := by
  have h2 := fd_2n hD.1
  unfold wpY_work
  dsimp only
  refine br_c (fun z => ?_) (fun z => ?_)
  · subst z
    exact h aW aS (hT rfl)
  · refine loop_0 (fun N p (s : (Nat → Int32) × (Nat → Int32)) => wY_work_22 post N (nI p) (nI n) (nI c) (nI l) (nI n) aL aR aC aT aD aE s.1 s.2 aP) (fun p s => ∀ ch, ch < p → s.2 ch = fd_b (fd_rs aL aR aC n ch).isSome ∧ ∀ P, fd_rs aL aR aC n ch = some P → ∀ i j, i < 5 → j < 5 → fd_gw 1000000 (P i j) (s.1 (25 * ch + 5 * j + i))) (2 ^ n) (aW, aS) (fun ch hch => by omega) ?_ ?_
    · intro N s hs
      exact pk_le (2 ^ n) (2 ^ n) (fun _ => h s.1 s.2 hs) (fun z => by omega) (hx := fd_1l (by have := hD.1; omega))
    · intro N p s hp hs next
      refine pk_le (2 ^ n) p (fun z => by omega) (fun _ => yc_ways hD (ch := p) (by omega) (fun b hf hg => ?_)) (hx := fd_1l (by have := hD.1; omega))
      refine ⟨vp_in_nI (by omega) (by omega), nm_r (e' := upd s.2 p (fd_b (fd_rs aL aR aC n p).isSome)) (by rw [nI_clamp (by omega), fd_narb]) (nm_r (nI_1 p) (next (b, upd s.2 p (fd_b (fd_rs aL aR aC n p).isSome)) ?_))⟩
      intro ch hch
      dsimp only
      by_cases e : ch = p
      · subst e
        exact ⟨pk_us, hg⟩
      · obtain ⟨k1, k2⟩ := hs ch (by omega)
        refine ⟨(pk_un e).trans k1, fun P hP i j hi hj => ?_⟩
        rw [hf (25 * ch + 5 * j + i) (by omega)]
        exact k2 P hP i j hi hj
theorem yc_all {post : Int32 → SY → Prop} (hY : fd_BY n c w aL aR aC aT aW aS) (h : ∀ b s : Nat → Int32, fd_tab n aL aR aC b s → post (nI (32 * 2 ^ n)) (nI n, nI c, nI l, nI n, aL, aR, aC, aT, aD, aE, b, s, aP)) : wpY_all post (nI n, nI c, nI l, w, aL, aR, aC, aT, aD, aE, aW, aS, aP) := by
  have hn := hY.1.1
  have h2 := fd_2n hn
  unfold wpY_all
  dsimp only
  refine yc_work hY.1 hY.2.2.2 (fun b s hT => ?_)
  show post (nI 32 <<< (nI n &&& 31)) _
  rw [pk_shlN (n := 32) (nI n &&& 31) n (s_l n (by omega)) (by omega)]
  exact h b s hT
theorem yc_holds {post : Int32 → Prop} {p a : Nat} (ha : a < 20) (h : post (fd_b (fd_lh p (nI a)))) : wpY_holds post (nI p) (nI a) := by
  refine ⟨by decide, by decide, ?_⟩
  rw [fd_yholds p ha]
  cases e : fd_lh p (nI a) with
  | true =>
    rw [e] at h
    exact br_t rfl h
  | false =>
    rw [e] at h
    exact br_f (fun z => nomatch z) h
theorem yc_p30 {post : Int32 → Prop} {J : Int32 → Prop} {p k m N : Nat} (hm : m < 4) (hk : k < 24) (hl : fd_lt (aT (4 * k + m))) (s : Bool) (h : wY_possible_30 post J (nI p) (nI k) (nI n) (nI c) (nI l) w aL aR aC aT aD aE aW aS aP N (fd_b (s || fd_lh p (aT (4 * k + m)))) (nI (4 * k + m + 1))) : wY_possible_30 post J (nI p) (nI k) (nI n) (nI c) (nI l) w aL aR aC aT aD aE aW aS aP (N + 1) (fd_b s) (nI (4 * k + m)) := by
  have e4 : (4 : Int32) * nI k + 4 = nI (4 * k + 4) := by
    show nI 4 * nI k + nI 4 = _
    rw [pk_mul, nI_add]
  have hin : vp_in (nI (4 * k + m)) 96 := vp_in_nI (by omega) (by omega)
  refine pk_le (4 * k + 4) (4 * k + m) (fun z => by omega) (fun _ => ⟨hin, ?_⟩) (hx := e4)
  rw [nI_clamp (by omega)]
  rcases hl with e | ⟨a, ha, e⟩
  · rw [e] at h ⊢
    rw [show fd_lh p (-1) = false from rfl, Bool.or_false] at h
    exact br_t (by decide) (nm_r (nI_1 _) h)
  · rw [e] at h ⊢
    refine br_f (nI_pos (by omega)) ⟨hin, yc_holds ha ?_⟩
    cases z : fd_lh p (nI a) with
    | false =>
      rw [z, Bool.or_false] at h
      exact br_t rfl (nm_r (nI_1 _) h)
    | true =>
      rw [z, Bool.or_true] at h
      exact br_f (by decide) (nm_r (nI_1 _) h)
theorem yc_p30e {post : Int32 → Prop} {J : Int32 → Prop} {p k N : Nat} (hk : k < 24) (s : Bool) (h0 : s = false → post 0) (h1 : s = true → J (nI (k + 1))) : wY_possible_30 post J (nI p) (nI k) (nI n) (nI c) (nI l) w aL aR aC aT aD aE aW aS aP (N + 1) (fd_b s) (nI (4 * k + 4)) := by
  have e4 : (4 : Int32) * nI k + 4 = nI (4 * k + 4) := by
    show nI 4 * nI k + nI 4 = _
    rw [pk_mul, nI_add]
  refine pk_le (4 * k + 4) (4 * k + 4) (fun _ => ?_) (fun z => by omega) (hx := e4)
  cases s with
  | false => exact br_t rfl (h0 rfl)
  | true => exact br_f (by decide) (nm_r (nI_1 k) (h1 rfl))
theorem yc_pos {post : Int32 → Prop} (hn : n ≤ 5) (hc : c ≤ 24) (hl : ∀ k, k < 4 * c → fd_lt (aT k)) (hT : fd_tab n aL aR aC aW aS) {p : Nat} (hp : p < 32 * 2 ^ n) (h : post (fd_b (fd_ps aL aR aC aT n c p))) : wpY_possible post (nI n, nI c, nI l, w, aL, aR, aC, aT, aD, aE, aW, aS, aP) (nI p) := by
  have h2 := fd_2n hn
  unfold wpY_possible
  dsimp only
  rw [pk_shrN (n := p) (by omega) ((5 : Int32) &&& 31) 5 (by decide), show (2 : Nat) ^ 5 = 32 from rfl]
  refine ⟨vp_in_nI (by omega) (by omega), ?_⟩
  rw [nI_clamp (by omega), (hT (p / 32) (by omega)).1]
  unfold fd_ps at h
  cases er : (fd_rs aL aR aC n (p / 32)).isSome with
  | false =>
    rw [er] at h
    exact br_t rfl h
  | true =>
    rw [er, Bool.true_and, fd_alx] at h
    refine br_f (by decide) ?_
    have inner : ∀ (N k : Nat), k < c → (fd_c1 aT p k = false → post 0) → (fd_c1 aT p k = true → wY_possible_15 post (nI p) (nI n) (nI c) (nI l) w aL aR aC aT aD aE aW aS aP N (nI (k + 1))) → wY_possible_15 post (nI p) (nI n) (nI c) (nI l) w aL aR aC aT aD aE aW aS aP (N + 1) (nI k) := by
      intro N k hk h0 h1
      refine pk_le c k (fun z => by omega) (fun _ => nm_r (pk_mul 4 k) ⟨5, ?_⟩)
      refine yc_p30 (m := 0) (by omega) (by omega) (hl _ (by omega)) false ?_
      refine yc_p30 (m := 1) (by omega) (by omega) (hl _ (by omega)) _ ?_
      refine yc_p30 (m := 2) (by omega) (by omega) (hl _ (by omega)) _ ?_
      refine yc_p30 (m := 3) (by omega) (by omega) (hl _ (by omega)) _ ?_
      refine yc_p30e (by omega) _ (fun z => h0 ?_) (fun z => h1 ?_)
      · rw [Bool.false_or] at z
        exact z
      · rw [Bool.false_or] at z
        exact z
    have key := fd_look (fun N i => wY_possible_15 post (nI p) (nI n) (nI c) (nI l) w aL aR aC aT aD aE aW aS aP N (nI i)) (fun k => !(fd_c1 aT p k)) c (post 0) (post 1) ?_ ?_ ?_ c 0 (by omega) ?_ ?_
    · exact ⟨c + 1, key⟩
    · intro N hp
      exact pk_le c c (fun _ => hp) (fun z => by omega)
    · intro N i hi hq hp'
      rw [Bool.not_eq_true'] at hq
      exact inner N i hi (fun _ => hp') (fun z => by rw [hq] at z; exact nomatch z)
    · intro N i hi hq hp'
      rw [Bool.not_eq_false'] at hq
      exact inner N i hi (fun z => by rw [hq] at z; exact nomatch z) (fun _ => hp')
    · intro e
      rw [e] at h
      exact h
    · intro e
      rw [e] at h
      exact h
end
end
section
/-! the component: its questions -/
section
variable {n c l : Nat} {aL aR aC aY aN aD aE aP aQ aB aT : Nat → Int32}
theorem fd_bn0 {b : Bool} (h : b = false) : fd_b b = 0 := by rw [h]; rfl
theorem fd_bn1 {b : Bool} (h : b = true) : ¬ fd_b b = 0 := by rw [h]; decide
theorem fd_fa {b : Bool} (h : ¬ b = true) : b = false := Bool.eq_false_iff.mpr h
theorem xc_has {post : Int32 → SX → Prop} (hX : fd_BX n c aL aR aC aT aY aN) (y z : Int32) (q : Nat → Bool) (hq : ∀ p, p < 32 * 2 ^ n → (q p = true ↔ (fd_ps aL aR aC aT n c p = true ∧ nI p &&& y = y ∧ nI p &&& z = 0))) (h : ∀ qq b : Nat → Int32, post (fd_b (fd_ex q (32 * 2 ^ n) 0)) (nI n, nI c, nI l, aL, aR, aC, aY, aN, aD, aE, aP, qq, b)) : wpX_hasModelWith post (nI n, nI c, nI l, aL, aR, aC, aY, aN, aD, aE, aP, aQ, aB) y z := by
  have hn := hX.1.1
  have h2 := fd_2n hn
  unfold wpX_hasModelWith
  dsimp only
  refine xc_mark hX (fun qq b hqq => ?_)
  dsimp only
  refine xc_pc hn ?_
  have key := fd_look (fun N i => wX_hasModelWith_12 post y z (nI (32 * 2 ^ n)) (nI n) (nI c) (nI l) aL aR aC aY aN aD aE aP qq b N (nI i)) q (32 * 2 ^ n) (post 1 (nI n, nI c, nI l, aL, aR, aC, aY, aN, aD, aE, aP, qq, b)) (post 0 (nI n, nI c, nI l, aL, aR, aC, aY, aN, aD, aE, aP, qq, b)) ?_ ?_ ?_ (32 * 2 ^ n) 0 (by omega) ?_ ?_
  · exact ⟨_, key⟩
  · intro N hp
    exact pk_le (32 * 2 ^ n) (32 * 2 ^ n) (fun _ => hp) (fun z => by omega)
  · intro N i hi hqi hp
    obtain ⟨h1, h3, h4⟩ := (hq i hi).1 hqi
    refine pk_le (32 * 2 ^ n) i (fun z => by omega) (fun _ => ⟨vp_in_nI (by omega) (by omega), ?_⟩)
    rw [nI_clamp (by omega), hqq i hi]
    exact br_f (fd_bn1 h1) (br_t h3 (br_t h4 hp))
  · intro N i hi hqi hp
    refine pk_le (32 * 2 ^ n) i (fun z => by omega) (fun _ => ⟨vp_in_nI (by omega) (by omega), ?_⟩)
    rw [nI_clamp (by omega), hqq i hi]
    cases e : fd_ps aL aR aC aT n c i with
    | false => exact br_t rfl (nm_r (nI_1 i) hp)
    | true =>
      refine br_f (by decide) (br_c (fun z1 => br_c (fun z2 => ?_) (fun _ => nm_r (nI_1 i) hp)) (fun _ => nm_r (nI_1 i) hp))
      rw [(hq i hi).2 ⟨e, z1, z2⟩] at hqi
      exact nomatch hqi
  · intro e
    have := h qq b
    rw [e] at this
    exact this
  · intro e
    have := h qq b
    rw [e] at this
    exact this
theorem fd_ctS {pr : Nat → Int32} (hpr : fd_pr pr) (p a k : Nat) (hk : k = if p.testBit a = true then 2 * a else 2 * a + 1) : ∃ m : Nat, m ≤ 1000 ∧ pr k = nI m ∧ fd_ct pr p (a + 1) = fd_ct pr p a + m := by
  obtain ⟨m, hm, e⟩ := hpr k
  refine ⟨m, hm, e, ?_⟩
  show fd_ct pr p a + (pr (if p.testBit a = true then 2 * a else 2 * a + 1)).toNatClampNeg = _
  rw [← hk, e, nI_clamp (by omega)]
theorem xc_cost {post : Int64 → Prop} (hn : n ≤ 5) (hpr : fd_pr aP) {p : Nat} (h : post (lN (fd_ct aP p (5 + n)))) : wpX_costOf post (nI n, nI c, nI l, aL, aR, aC, aY, aN, aD, aE, aP, aQ, aB) (nI p) := by
  unfold wpX_costOf
  dsimp only
  refine xc_ac ?_
  refine loop_0 (fun N a (s : Int64) => wX_costOf_10 post (nI p) (nI (5 + n)) (nI n) (nI c) (nI l) aL aR aC aY aN aD aE aP aQ aB N s (nI a)) (fun a s => s = lN (fd_ct aP p a)) (5 + n) 0 rfl ?_ ?_
  · intro N s hs
    refine pk_le (5 + n) (5 + n) (fun _ => ?_) (fun z => by omega)
    rw [hs]
    exact h
  · intro N a s ha hs next
    refine pk_le (5 + n) a (fun z => by omega) (fun _ => ?_)
    rw [fd_bitN p (by omega)]
    have e2 : (2 : Int32) * nI a = nI (2 * a) := pk_mul 2 a
    have e3 : (2 : Int32) * nI a + 1 = nI (2 * a + 1) := by rw [e2, nI_1]
    by_cases t : p.testBit a = true
    · rw [if_pos t]
      obtain ⟨m, hm, em, ec⟩ := fd_ctS hpr p a (2 * a) (by rw [if_pos t])
      refine br_t rfl (br_f (by decide) ?_)
      rw [e2]
      refine ⟨vp_in_nI (by omega) (by omega), nm_r (e' := lN (fd_ct aP p (a + 1))) ?_ (nm_r (nI_1 a) (next _ rfl))⟩
      rw [nI_clamp (by omega), em, nI_l (by omega), hs, lN_add, ec]
    · rw [if_neg t]
      obtain ⟨m, hm, em, ec⟩ := fd_ctS hpr p a (2 * a + 1) (by rw [if_neg t])
      refine br_f (by decide) (br_t rfl ?_)
      rw [e3]
      refine ⟨vp_in_nI (by omega) (by omega), nm_r (e' := lN (fd_ct aP p (a + 1))) ?_ (nm_r (nI_1 a) (next _ rfl))⟩
      rw [nI_clamp (by omega), em, nI_l (by omega), hs, lN_add, ec]
theorem xc_least {post : Int64 → Prop} (hn : n ≤ 5) (hpr : fd_pr aP) (ps : Nat → Bool) (hqq : ∀ p, p < 32 * 2 ^ n → aQ p = fd_b (ps p)) (h : post (fd_lo (fd_mn ps (fun p => fd_ct aP p (5 + n))) (32 * 2 ^ n) 0 3000000000)) : wpX_leastCost post (nI n, nI c, nI l, aL, aR, aC, aY, aN, aD, aE, aP, aQ, aB) := by
  have h2 := fd_2n hn
  unfold wpX_leastCost
  dsimp only
  refine xc_pc hn ?_
  have key := fd_run (fun N i (s : Int64) => wX_leastCost_12 post (nI (32 * 2 ^ n)) (nI n) (nI c) (nI l) aL aR aC aY aN aD aE aP aQ aB N s (nI i)) (fd_mn ps (fun p => fd_ct aP p (5 + n))) (fun _ _ => True) (32 * 2 ^ n) post (fun _ _ _ _ => trivial) ?_ ?_ (32 * 2 ^ n) 0 3000000000 (by omega) trivial h
  · exact ⟨_, key⟩
  · intro N s _ hp
    exact pk_le (32 * 2 ^ n) (32 * 2 ^ n) (fun _ => hp) (fun z => by omega)
  · intro N i s hi _ hp
    refine pk_le (32 * 2 ^ n) i (fun z => by omega) (fun _ => ⟨vp_in_nI (by omega) (by omega), ?_⟩)
    rw [nI_clamp (by omega), hqq i hi]
    unfold fd_mn at hp
    cases e : ps i with
    | false =>
      rw [e, if_neg (fun z => nomatch z.1)] at hp
      exact br_t rfl (nm_r (nI_1 i) hp)
    | true =>
      rw [e] at hp
      refine br_f (by decide) (xc_cost hn hpr (br_c (fun z => ?_) (fun z => ?_)))
      · rw [if_neg (fun y => Int64.not_lt.mpr z y.2)] at hp
        exact nm_r (nI_1 i) hp
      · rw [if_pos ⟨rfl, Int64.not_le.mp z⟩] at hp
        exact nm_r (nI_1 i) hp
theorem fd_fsF {q : Nat → Bool} {i : Nat} {s : Int32} (h : ¬ (q i = true ∧ (s = -1 ∨ fd_bf i s))) : fd_fs q i s = s := by
  unfold fd_fs
  exact if_neg h
theorem fd_fsT {q : Nat → Bool} {i : Nat} {s : Int32} (h : q i = true ∧ (s = -1 ∨ fd_bf i s)) : fd_fs q i s = nI i := by
  unfold fd_fs
  exact if_pos h
theorem xc_first {post : Int32 → Prop} (hn : n ≤ 5) (hpr : fd_pr aP) (ps q : Nat → Bool) (most : Int64) (hqq : ∀ p, p < 32 * 2 ^ n → aQ p = fd_b (ps p)) (hq : ∀ p, p < 32 * 2 ^ n → (q p = true ↔ (ps p = true ∧ ¬ most < lN (fd_ct aP p (5 + n))))) (h : post (fd_lo (fd_fs q) (32 * 2 ^ n) 0 (-1))) : wpX_firstThatCostsAtMost post (nI n, nI c, nI l, aL, aR, aC, aY, aN, aD, aE, aP, aQ, aB) most := by
  have h2 := fd_2n hn
  unfold wpX_firstThatCostsAtMost
  dsimp only
  refine xc_pc hn ?_
  have key := fd_run (fun N i (s : Int32) => wX_firstThatCostsAtMost_11 post most (nI (32 * 2 ^ n)) (nI n) (nI c) (nI l) aL aR aC aY aN aD aE aP aQ aB N s (nI i)) (fd_fs q) (fun _ _ => True) (32 * 2 ^ n) post (fun _ _ _ _ => trivial) ?_ ?_ (32 * 2 ^ n) 0 (-1) (by omega) trivial h
  · exact ⟨_, key⟩
  · intro N s _ hp
    exact pk_le (32 * 2 ^ n) (32 * 2 ^ n) (fun _ => hp) (fun z => by omega)
  · intro N i s hi _ hp
    refine pk_le (32 * 2 ^ n) i (fun z => by omega) (fun _ => ⟨vp_in_nI (by omega) (by omega), ?_⟩)
    rw [nI_clamp (by omega), hqq i hi]
    cases e : ps i with
    | false =>
      rw [fd_fsF (fun z => by have := ((hq i hi).1 z.1).1; rw [e] at this; exact nomatch this)] at hp
      exact br_t rfl (nm_r (nI_1 i) hp)
    | true =>
      refine br_f (by decide) (xc_cost hn hpr (br_c (fun z => ?_) (fun z => ?_)))
      · rw [fd_fsF (fun y => ((hq i hi).1 y.1).2 z)] at hp
        exact nm_r (nI_1 i) hp
      · have qt : q i = true := (hq i hi).2 ⟨e, z⟩
        refine br_c (fun y => ?_) (fun y => ?_)
        · rw [fd_fsT ⟨qt, Or.inl y⟩] at hp
          exact nm_r (nI_1 i) hp
        · refine nm_e (nm_e (br_c (fun x => br_f (by decide) ?_) (fun x => br_t rfl ?_)))
          · rw [fd_fsT ⟨qt, Or.inr x⟩] at hp
            exact nm_r (nI_1 i) hp
          · rw [fd_fsF (fun v => v.2.elim y x)] at hp
            exact nm_r (nI_1 i) hp
theorem xc_patterns {post : Int32 → SX → Prop} (hX : fd_BX n c aL aR aC aT aY aN) (h : ∀ qq b : Nat → Int32, post (fd_lo (fd_cn (fd_ps aL aR aC aT n c)) (32 * 2 ^ n) 0 0) (nI n, nI c, nI l, aL, aR, aC, aY, aN, aD, aE, aP, qq, b)) : wpX_patterns post (nI n, nI c, nI l, aL, aR, aC, aY, aN, aD, aE, aP, aQ, aB) := by
  have hn := hX.1.1
  have h2 := fd_2n hn
  unfold wpX_patterns
  dsimp only
  refine xc_mark hX (fun qq b hqq => ?_)
  dsimp only
  refine xc_pc hn ?_
  have key := fd_run (fun N i (s : Int32) => wX_patterns_13 post (nI (32 * 2 ^ n)) (nI n) (nI c) (nI l) aL aR aC aY aN aD aE aP qq b N s (nI i)) (fd_cn (fd_ps aL aR aC aT n c)) (fun _ _ => True) (32 * 2 ^ n) (fun r => post r (nI n, nI c, nI l, aL, aR, aC, aY, aN, aD, aE, aP, qq, b)) (fun _ _ _ _ => trivial) ?_ ?_ (32 * 2 ^ n) 0 0 (by omega) trivial (h qq b)
  · exact ⟨_, key⟩
  · intro N s _ hp
    exact pk_le (32 * 2 ^ n) (32 * 2 ^ n) (fun _ => hp) (fun z => by omega)
  · intro N i s hi _ hp
    refine pk_le (32 * 2 ^ n) i (fun z => by omega) (fun _ => ⟨vp_in_nI (by omega) (by omega), ?_⟩)
    rw [nI_clamp (by omega), hqq i hi]
    unfold fd_cn at hp
    cases e : fd_ps aL aR aC aT n c i with
    | false =>
      rw [e, if_neg (fun z => nomatch z)] at hp
      exact br_t rfl (nm_r (nI_1 i) hp)
    | true =>
      rw [e, if_pos rfl] at hp
      exact br_f (by decide) (nm_e (nm_r (nI_1 i) hp))
theorem xc_bits {post : Int32 → Prop} (x : Int32) (h : post (nI (fd_cb (bt x) 10))) : wpX_bitsIn post (nI n, nI c, nI l, aL, aR, aC, aY, aN, aD, aE, aP, aQ, aB) x := by
  unfold wpX_bitsIn
  dsimp only
  refine loop_0 (fun N a (s : Int32) => wX_bitsIn_4 post x (nI n) (nI c) (nI l) aL aR aC aY aN aD aE aP aQ aB N s (nI a)) (fun a s => s = nI (fd_cb (bt x) a)) 10 0 rfl ?_ ?_
  · intro N s hs
    refine pk_le 10 10 (fun _ => ?_) (fun z => by omega)
    rw [hs]
    exact h
  · intro N a s ha hs next
    refine pk_le 10 a (fun z => by omega) (fun _ => nm_r (e' := nI (fd_cb (bt x) (a + 1))) ?_ (nm_r (nI_1 a) (next _ rfl)))
    rw [fd_bit x (by omega), hs]
    show _ = nI (fd_cb (bt x) a + (if bt x a = true then 1 else 0))
    by_cases t : bt x a = true
    · rw [if_pos t, if_pos t, nI_1]
    · rw [if_neg t, if_neg t, Int32.add_zero, Nat.add_zero]
theorem xc_settled {post : Int32 → SX → Prop} (hX : fd_BX n c aL aR aC aT aY aN) (h : ∀ (qq b : Nat → Int32) (ay an f : Int32), fd_sX (fd_ps aL aR aC aT n c) (5 + n) (32 * 2 ^ n) ay an f → post (if f = 0 then 0 else nI (fd_cb (bt (ay ||| an)) 10)) (nI n, nI c, nI l, aL, aR, aC, aY, aN, aD, aE, aP, qq, b)) : wpX_settled post (nI n, nI c, nI l, aL, aR, aC, aY, aN, aD, aE, aP, aQ, aB) := by
  have hn := hX.1.1
  have h2 := fd_2n hn
  unfold wpX_settled
  dsimp only
  refine xc_mark hX (fun qq b hqq => ?_)
  dsimp only
  refine xc_pc hn ?_
  have e1 : nI (32 * 2 ^ n) - 1 = nI (2 ^ (5 + n) - 1) := by
    show _ - nI 1 = _
    rw [pk_sub (by omega), Nat.pow_add]
  refine nm_r e1 (nm_r e1 ?_)
  refine loop_0 (fun N i (s : Int32 × Int32 × Int32) => wX_settled_23 post (nI (32 * 2 ^ n)) (nI n) (nI c) (nI l) aL aR aC aY aN aD aE aP qq b N s.1 s.2.1 s.2.2 (nI i)) (fun i s => fd_sX (fd_ps aL aR aC aT n c) (5 + n) i s.1 s.2.1 s.2.2) (32 * 2 ^ n) (nI (2 ^ (5 + n) - 1), nI (2 ^ (5 + n) - 1), 0) fd_sX0 ?_ ?_
  · rintro N ⟨ay, an, f⟩ hs
    have := h qq b ay an f hs
    refine pk_le (32 * 2 ^ n) (32 * 2 ^ n) (fun _ => br_c (fun z => ?_) (fun z => ?_)) (fun z => by omega)
    · have z' : f = 0 := z
      rw [if_pos z'] at this
      exact this
    · have z' : ¬ f = 0 := z
      rw [if_neg z'] at this
      exact xc_bits _ this
  · rintro N i ⟨ay, an, f⟩ hi hs next
    refine pk_le (32 * 2 ^ n) i (fun z => by omega) (fun _ => ⟨vp_in_nI (by omega) (by omega), ?_⟩)
    rw [nI_clamp (by omega), hqq i hi]
    cases e : fd_ps aL aR aC aT n c i with
    | false => exact br_t rfl (nm_r (nI_1 i) (next (ay, an, f) (fd_sXf hs e)))
    | true => exact br_f (by decide) (nm_e (nm_e (nm_r (nI_1 i) (next (ay &&& nI i, an &&& (nI i ^^^ (-1)), 1) (fd_sXt hs e)))))
theorem xc_some {post : Int32 → Prop} {ch : Nat} (hch : ch < 32) (ps : Nat → Bool) (hqq : ∀ t, t < 32 → aQ (32 * ch + t) = fd_b (ps (32 * ch + t))) (h1 : (∃ p, 32 * ch ≤ p ∧ p < 32 * (ch + 1) ∧ ps p = true) → post 1) (h0 : (∀ p, 32 * ch ≤ p → p < 32 * (ch + 1) → ps p = false) → post 0) : wpX_isPossibleWithSomeTruths post (nI n, nI c, nI l, aL, aR, aC, aY, aN, aD, aE, aP, aQ, aB) (nI ch) := by
  unfold wpX_isPossibleWithSomeTruths
  dsimp only
  have key := fd_look (fun N i => wX_isPossibleWithSomeTruths_2 post (nI ch) (nI n) (nI c) (nI l) aL aR aC aY aN aD aE aP aQ aB N (nI i)) (fun t => ps (32 * ch + t)) 32 (post 1) (post 0) ?_ ?_ ?_ 32 0 rfl ?_ ?_
  · exact ⟨_, key⟩
  · intro N hp
    exact pk_le 32 32 (fun _ => hp) (fun z => by omega)
  · intro N i hi hq hp
    refine pk_le 32 i (fun z => by omega) (fun _ => ?_)
    rw [fd_pat ch hch i hi, nI_clamp (by omega), hqq i hi]
    exact ⟨vp_in_nI (by omega) (by omega), br_f (fd_bn1 hq) hp⟩
  · intro N i hi hq hp
    refine pk_le 32 i (fun z => by omega) (fun _ => ?_)
    rw [fd_pat ch hch i hi, nI_clamp (by omega), hqq i hi]
    exact ⟨vp_in_nI (by omega) (by omega), br_t (fd_bn0 hq) (nm_r (nI_1 i) hp)⟩
  · intro e
    obtain ⟨t, _, ht, hq⟩ := (fd_exI 32 0).1 e
    exact h1 ⟨32 * ch + t, by omega, by omega, hq⟩
  · intro e
    refine h0 (fun p hp1 hp2 => fd_fa (fun z => ?_))
    have := (fd_exI (q := fun t => ps (32 * ch + t)) 32 0).2 ⟨p - 32 * ch, by omega, by omega, by
      show ps (32 * ch + (p - 32 * ch)) = true
      rw [show 32 * ch + (p - 32 * ch) = p from by omega]
      exact z⟩
    rw [e] at this
    exact nomatch this
theorem fd_psS {p : Nat} (h : fd_ps aL aR aC aT n c p = true) : ∃ P, fd_rs aL aR aC n (p / 32) = some P := by
  unfold fd_ps at h
  rw [Bool.and_eq_true] at h
  exact Option.isSome_iff_exists.mp h.1
theorem fd_vlS {P : Nat → Nat → Int} {i j p : Nat} (h : fd_rs aL aR aC n (p / 32) = some P) : fd_vl aL aR aC n i j p = P i j := by
  unfold fd_vl
  rw [h]
theorem fd_gB {v : Int32} : v.toInt < 2147483648 := by
  have := Int32.toInt_lt v
  omega
/-- the step of greatest, either side: v is the cell -/
theorem fd_gStep {ps : Nat → Bool} {vl : Nat → Int} {q q' : Nat} {best : Int64} (h : fd_gI ps vl q best) (hq : q ≤ q') (x : Int) (v : Int32) (hxv : x ≠ 1000000000) (ev : v.toInt = x) (hv : ∀ p, q ≤ p → p < q' → vl p = x) (hs : ∃ p, q ≤ p ∧ p < q' ∧ ps p = true) :
    (best = 3000000000 → fd_gI ps vl q' v.toInt64) ∧ (¬ best = 3000000000 → (v.toInt64 ≤ best → fd_gI ps vl q' best) ∧ (¬ v.toInt64 ≤ best → fd_gI ps vl q' v.toInt64)) := by
  have et : v.toInt64.toInt = x := by rw [Int32.toInt_toInt64]; exact ev
  have hb : x < 2147483648 := by rw [← ev]; exact fd_gB
  refine ⟨fun z => ?_, fun z => ⟨fun y => ?_, fun y => ?_⟩⟩
  · exact fd_gS h hq x hv hs hxv _ hb (fun _ => et) (fun z' => (z' z).elim)
  · rw [Int64.le_iff_toInt_le, et] at y
    exact fd_gS h hq x hv hs hxv _ hb (fun w => (w.elim (fun w => (z w).elim) (fun w => by omega))) (fun _ _ => rfl)
  · rw [Int64.le_iff_toInt_le, et] at y
    exact fd_gS h hq x hv hs hxv _ hb (fun _ => et) (fun _ w => by omega)
theorem xc_greatest {post : Int64 → SX → Prop} (hX : fd_BX n c aL aR aC aT aY aN) {i j : Nat} (hi : i < 5) (hj : j < 5) (hij : ¬ nI i = nI j) (h : ∀ (qq b : Nat → Int32) (r : Int64), fd_gR (fd_ps aL aR aC aT n c) (fd_vl aL aR aC n i j) (32 * 2 ^ n) r → post r (nI n, nI c, nI l, aL, aR, aC, aY, aN, aD, aE, aP, qq, b)) : wpX_greatest post (nI n, nI c, nI l, aL, aR, aC, aY, aN, aD, aE, aP, aQ, aB) (nI i) (nI j) := by
  have hn := hX.1.1
  have h2 := fd_2n hn
  unfold wpX_greatest
  dsimp only
  refine xc_two (nI i) (nI j) (fun _ => br_f (by decide) ?_) (fun z => (z ⟨⟨i, hi, rfl⟩, ⟨j, hj, rfl⟩, hij⟩).elim)
  refine xc_mark hX (fun qq b0 hqq => ?_)
  dsimp only
  refine xc_dpc hn ?_
  refine loop_0 (fun N ch (s : Int64 × (Nat → Int32)) => wX_greatest_30 post (nI i) (nI j) (nI (2 ^ n)) N s.1 (nI ch) (nI n) (nI c) (nI l) aL aR aC aY aN aD aE aP qq s.2) (fun ch s => fd_gI (fd_ps aL aR aC aT n c) (fd_vl aL aR aC n i j) (32 * ch) s.1) (2 ^ n) (3000000000, b0) fd_g0 ?_ ?_
  · rintro N ⟨best, b⟩ hs
    exact pk_le (2 ^ n) (2 ^ n) (fun _ => h qq b best (Or.inr hs)) (fun z => by omega)
  · rintro N ch ⟨best, b⟩ hch hs next
    refine pk_le (2 ^ n) ch (fun z => by omega) (fun _ => xc_some (by omega) (fd_ps aL aR aC aT n c) (fun t ht => hqq _ (by omega)) (fun hx => br_f (by decide) ?_) (fun hx => br_t rfl (nm_r (nI_1 ch) (next (best, b) (fd_gN hs (by omega) hx)))))
    refine xc_tighten hX.1 ch (fun b' hb' => ?_)
    obtain ⟨p0, q1, q2, q3⟩ := hx
    obtain ⟨P, hP⟩ := fd_psS q3
    have ed : ∀ p, 32 * ch ≤ p → p < 32 * (ch + 1) → p / 32 = ch := fun p _ _ => by omega
    rw [ed p0 q1 q2] at hP
    have gw := hb' P hP i j hi hj
    have ev : ∀ p, 32 * ch ≤ p → p < 32 * (ch + 1) → fd_vl aL aR aC n i j p = P i j := fun p a1 a2 => fd_vlS (by rw [ed p a1 a2]; exact hP)
    refine ⟨fd_ixI hi hj, nm_r (congrArg b' (fd_ixC hi hj)) (br_c (fun z => h qq b' _ (Or.inl ⟨rfl, p0, by omega, q3, ?_⟩)) (fun z => ?_))⟩
    · rw [ev p0 q1 q2]
      rw [fd_eqI, fd_z9] at z
      unfold fd_gw at gw
      omega
    · rw [fd_eqI, fd_z9] at z
      have gx : P i j ≠ 1000000000 ∧ (b' (5 * i + j)).toInt = P i j := by
        unfold fd_gw at gw
        omega
      obtain ⟨k1, k2⟩ := fd_gStep hs (by omega) (P i j) (b' (5 * i + j)) gx.1 gx.2 ev ⟨p0, q1, q2, q3⟩
      exact br_c (fun y => nm_r (nI_1 ch) (next (_, b') (k1 y))) (fun y => br_c (fun x => nm_r (nI_1 ch) (next (_, b') ((k2 y).1 x))) (fun x => nm_r (nI_1 ch) (next (_, b') ((k2 y).2 x))))
end
end
section
/-! the reference: its questions -/
section
variable {n c l : Nat} {w : Int32} {aL aR aC aT aD aE aW aS aP : Nat → Int32}
theorem yc_ac : (5 : Int32) + nI n = nI (5 + n) := nI_add 5 n
theorem yc_cost {post : Int32 → Prop} (hn : n ≤ 5) (hpr : fd_pr aP) {p : Nat} (h : post (nI (fd_ct aP p (5 + n)))) : wpY_cost post (nI n, nI c, nI l, w, aL, aR, aC, aT, aD, aE, aW, aS, aP) (nI p) := by
  unfold wpY_cost
  dsimp only
  refine loop_0 (fun N a (s : Int32) => wY_cost_4 post (nI p) (nI n) (nI c) (nI l) w aL aR aC aT aD aE aW aS aP N s (nI a)) (fun a s => s = nI (fd_ct aP p a)) (5 + n) 0 rfl ?_ ?_
  · intro N s hs
    refine pk_le (5 + n) (5 + n) (fun _ => ?_) (fun z => by omega) (hx := yc_ac)
    rw [hs]
    exact h
  · intro N a s ha hs next
    refine pk_le (5 + n) a (fun z => by omega) (fun _ => ?_) (hx := yc_ac)
    rw [fd_bitN p (by omega)]
    have e3 : (2 : Int32) * nI a + 1 = nI (2 * a + 1) := by
      rw [show (2 : Int32) * nI a = nI (2 * a) from pk_mul 2 a, nI_1]
    rw [e3]
    by_cases t : p.testBit a = true
    · rw [if_pos t]
      obtain ⟨m, hm, em, ec⟩ := fd_ctS hpr p a (2 * a) (by rw [if_pos t])
      rw [show nI (2 * a + 1) - 1 = nI (2 * a) from nI_pred _]
      refine ⟨vp_in_nI (by omega) (by omega), nm_r (e' := nI (fd_ct aP p (a + 1))) ?_ (nm_r (nI_1 a) (next _ rfl))⟩
      rw [nI_clamp (by omega), em, hs, nI_add, ec]
    · rw [if_neg t]
      obtain ⟨m, hm, em, ec⟩ := fd_ctS hpr p a (2 * a + 1) (by rw [if_neg t])
      rw [Int32.sub_zero]
      refine ⟨vp_in_nI (by omega) (by omega), nm_r (e' := nI (fd_ct aP p (a + 1))) ?_ (nm_r (nI_1 a) (next _ rfl))⟩
      rw [nI_clamp (by omega), em, hs, nI_add, ec]
theorem yc_costL {post : Int64 → Prop} (hn : n ≤ 5) (hpr : fd_pr aP) {p : Nat} (h : post (lN (fd_ct aP p (5 + n)))) : wpY_cost (fun r => post r.toInt64) (nI n, nI c, nI l, w, aL, aR, aC, aT, aD, aE, aW, aS, aP) (nI p) := by
  refine yc_cost hn hpr ?_
  have := fd_ctB hpr p (5 + n)
  rw [nI_l (by omega)]
  exact h
theorem yc_cheapest {post : Int64 → SY → Prop} (hY : fd_BY n c w aL aR aC aT aW aS) (hpr : fd_pr aP) (h : ∀ b s : Nat → Int32, fd_tab n aL aR aC b s → post (fd_lo (fd_mn (fd_ps aL aR aC aT n c) (fun p => fd_ct aP p (5 + n))) (32 * 2 ^ n) 0 3000000000) (nI n, nI c, nI l, nI n, aL, aR, aC, aT, aD, aE, b, s, aP)) : wpY_cheapest post (nI n, nI c, nI l, w, aL, aR, aC, aT, aD, aE, aW, aS, aP) := by
  have hn := hY.1.1
  have h2 := fd_2n hn
  unfold wpY_cheapest
  dsimp only
  refine yc_all hY (fun b s hT => ?_)
  dsimp only
  have key := fd_run (fun N i (x : Int64) => wY_cheapest_12 post (nI (32 * 2 ^ n)) (nI n) (nI c) (nI l) (nI n) aL aR aC aT aD aE b s aP N x (nI i)) (fd_mn (fd_ps aL aR aC aT n c) (fun p => fd_ct aP p (5 + n))) (fun _ _ => True) (32 * 2 ^ n) (fun r => post r (nI n, nI c, nI l, nI n, aL, aR, aC, aT, aD, aE, b, s, aP)) (fun _ _ _ _ => trivial) ?_ ?_ (32 * 2 ^ n) 0 3000000000 (by omega) trivial (h b s hT)
  · exact ⟨_, key⟩
  · intro N x _ hp
    exact pk_le (32 * 2 ^ n) (32 * 2 ^ n) (fun _ => hp) (fun z => by omega)
  · intro N i x hi _ hp
    refine pk_le (32 * 2 ^ n) i (fun z => by omega) (fun _ => yc_pos hn hY.2.1 hY.2.2.1 hT hi ?_)
    unfold fd_mn at hp
    cases e : fd_ps aL aR aC aT n c i with
    | false =>
      rw [e, if_neg (fun z => nomatch z.1)] at hp
      exact br_t rfl (nm_r (nI_1 i) hp)
    | true =>
      rw [e] at hp
      have hb := fd_ctB hpr i (5 + n)
      have el : (nI (fd_ct aP i (5 + n))).toInt64 = lN (fd_ct aP i (5 + n)) := nI_l (by omega)
      refine br_f (by decide) (yc_cost hn hpr ?_)
      rw [el]
      refine br_c (fun z => ?_) (fun z => yc_cost hn hpr ?_)
      · rw [if_neg (fun y => Int64.not_lt.mpr z y.2)] at hp
        exact nm_r (nI_1 i) hp
      · rw [if_pos ⟨rfl, Int64.not_le.mp z⟩] at hp
        rw [el]
        exact nm_r (nI_1 i) hp
theorem yc_bf {post : Int32 → Prop} {i b : Nat} (hi : i < 1024) (hb : b < i) (h1 : fd_bf i (nI b) → post 1) (h0 : ¬ fd_bf i (nI b) → post 0) : wpY_before post (nI i) (nI b) := by
  have k : fd_bf i (nI b) ↔ ¬ nI b &&& ((nI i ^^^ nI b) &&& -(nI i ^^^ nI b)) = 0 := fd_bef hi (by omega) (by omega)
  exact nm_e (nm_e (br_c (fun z => h0 (fun y => k.1 y z)) (fun z => h1 (k.2 z))))
/-- one chosen pattern more, as the reference takes it -/
theorem yc_sel {A B : Prop} {q : Nat → Bool} {i : Nat} {s : Int32} (hi : i < 1024) (hI : fd_fI i s) (qt : q i = true) (hA : fd_fs q i s = nI i → A) (hB : fd_fs q i s = s → B) : (s < 0 → A) ∧ (¬ s < 0 → wpY_before (fun r => (r = 0 → B) ∧ (¬ r = 0 → A)) (nI i) s) := by
  rcases hI with e | ⟨b, hb, e⟩
  · exact br_t (by rw [e]; decide) (hA (fd_fsT ⟨qt, Or.inl e⟩))
  · subst e
    refine br_f (nI_pos (by omega)) (yc_bf hi hb (fun z => br_f (by decide) (hA (fd_fsT ⟨qt, Or.inr z⟩))) (fun z => br_t rfl (hB (fd_fsF (fun y => y.2.elim (fd_nIm1 (by omega)) z)))))
theorem yc_first {post : Int32 → SY → Prop} (hY : fd_BY n c w aL aR aC aT aW aS) (h : ∀ b s : Nat → Int32, fd_tab n aL aR aC b s → post (fd_lo (fd_fs (fd_ps aL aR aC aT n c)) (32 * 2 ^ n) 0 (-1)) (nI n, nI c, nI l, nI n, aL, aR, aC, aT, aD, aE, b, s, aP)) : wpY_first post (nI n, nI c, nI l, w, aL, aR, aC, aT, aD, aE, aW, aS, aP) := by
  have hn := hY.1.1
  have h2 := fd_2n hn
  unfold wpY_first
  dsimp only
  refine yc_all hY (fun b s hT => ?_)
  dsimp only
  have key := fd_run (fun N i (x : Int32) => wY_first_9 post (nI (32 * 2 ^ n)) (nI n) (nI c) (nI l) (nI n) aL aR aC aT aD aE b s aP N x (nI i)) (fd_fs (fd_ps aL aR aC aT n c)) fd_fI (32 * 2 ^ n) (fun r => post r (nI n, nI c, nI l, nI n, aL, aR, aC, aT, aD, aE, b, s, aP)) fd_fsI ?_ ?_ (32 * 2 ^ n) 0 (-1) (by omega) (Or.inl rfl) (h b s hT)
  · exact ⟨_, key⟩
  · intro N x _ hp
    exact pk_le (32 * 2 ^ n) (32 * 2 ^ n) (fun _ => hp) (fun z => by omega)
  · intro N i x hi hI hp
    refine pk_le (32 * 2 ^ n) i (fun z => by omega) (fun _ => yc_pos hn hY.2.1 hY.2.2.1 hT hi ?_)
    cases e : fd_ps aL aR aC aT n c i with
    | false =>
      rw [fd_fsF (fun z => by have := z.1; rw [e] at this; exact nomatch this)] at hp
      exact br_t rfl (nm_r (nI_1 i) hp)
    | true =>
      refine br_f (by decide) (yc_sel (by omega) hI e (fun z => ?_) (fun z => ?_))
      · rw [z] at hp
        exact nm_r (nI_1 i) hp
      · rw [z] at hp
        exact nm_r (nI_1 i) hp
theorem yc_firstCheapest {post : Int32 → SY → Prop} (hY : fd_BY n c w aL aR aC aT aW aS) (hpr : fd_pr aP) (q : Nat → Bool) (hq : ∀ p, p < 32 * 2 ^ n → (q p = true ↔ (fd_ps aL aR aC aT n c p = true ∧ lN (fd_ct aP p (5 + n)) = fd_lo (fd_mn (fd_ps aL aR aC aT n c) (fun p => fd_ct aP p (5 + n))) (32 * 2 ^ n) 0 3000000000))) (h : ∀ b s : Nat → Int32, fd_tab n aL aR aC b s → post (fd_lo (fd_fs q) (32 * 2 ^ n) 0 (-1)) (nI n, nI c, nI l, nI n, aL, aR, aC, aT, aD, aE, b, s, aP)) : wpY_firstCheapest post (nI n, nI c, nI l, w, aL, aR, aC, aT, aD, aE, aW, aS, aP) := by
  have hn := hY.1.1
  have h2 := fd_2n hn
  unfold wpY_firstCheapest
  dsimp only
  refine yc_cheapest hY hpr (fun b0 s0 hT0 => ?_)
  dsimp only
  refine yc_all (aT := aT) ⟨hY.1, hY.2.1, hY.2.2.1, fun _ => hT0⟩ (fun b s hT => ?_)
  dsimp only
  generalize fd_lo (fd_mn (fd_ps aL aR aC aT n c) (fun p => fd_ct aP p (5 + n))) (32 * 2 ^ n) 0 3000000000 = least at hq ⊢
  have key := fd_run (fun N i (x : Int32) => wY_firstCheapest_16 post least (nI (32 * 2 ^ n)) (nI n) (nI c) (nI l) (nI n) aL aR aC aT aD aE b s aP N x (nI i)) (fd_fs q) fd_fI (32 * 2 ^ n) (fun r => post r (nI n, nI c, nI l, nI n, aL, aR, aC, aT, aD, aE, b, s, aP)) fd_fsI ?_ ?_ (32 * 2 ^ n) 0 (-1) (by omega) (Or.inl rfl) (h b s hT)
  · exact ⟨_, key⟩
  · intro N x _ hp
    exact pk_le (32 * 2 ^ n) (32 * 2 ^ n) (fun _ => hp) (fun z => by omega)
  · intro N i x hi hI hp
    have hb := fd_ctB hpr i (5 + n)
    have el : (nI (fd_ct aP i (5 + n))).toInt64 = lN (fd_ct aP i (5 + n)) := nI_l (by omega)
    refine pk_le (32 * 2 ^ n) i (fun z => by omega) (fun _ => yc_cost hn hpr ?_)
    rw [el]
    refine br_c (fun ze => yc_pos hn hY.2.1 hY.2.2.1 hT hi ?_) (fun ze => ?_)
    · cases e : fd_ps aL aR aC aT n c i with
      | false =>
        rw [fd_fsF (fun z => by have := ((hq i hi).1 z.1).1; rw [e] at this; exact nomatch this)] at hp
        exact br_t rfl (nm_r (nI_1 i) hp)
      | true =>
        refine br_f (by decide) (yc_sel (by omega) hI ((hq i hi).2 ⟨e, ze⟩) (fun z => ?_) (fun z => ?_))
        · rw [z] at hp
          exact nm_r (nI_1 i) hp
        · rw [z] at hp
          exact nm_r (nI_1 i) hp
    · rw [fd_fsF (fun z => ze ((hq i hi).1 z.1).2)] at hp
      exact nm_r (nI_1 i) hp
theorem yc_patterns {post : Int32 → SY → Prop} (hY : fd_BY n c w aL aR aC aT aW aS) (h : ∀ b s : Nat → Int32, fd_tab n aL aR aC b s → post (fd_lo (fd_cn (fd_ps aL aR aC aT n c)) (32 * 2 ^ n) 0 0) (nI n, nI c, nI l, nI n, aL, aR, aC, aT, aD, aE, b, s, aP)) : wpY_patterns post (nI n, nI c, nI l, w, aL, aR, aC, aT, aD, aE, aW, aS, aP) := by
  have hn := hY.1.1
  have h2 := fd_2n hn
  unfold wpY_patterns
  dsimp only
  refine yc_all hY (fun b s hT => ?_)
  dsimp only
  have key := fd_run (fun N i (x : Int32) => wY_patterns_9 post (nI (32 * 2 ^ n)) (nI n) (nI c) (nI l) (nI n) aL aR aC aT aD aE b s aP N x (nI i)) (fd_cn (fd_ps aL aR aC aT n c)) (fun _ _ => True) (32 * 2 ^ n) (fun r => post r (nI n, nI c, nI l, nI n, aL, aR, aC, aT, aD, aE, b, s, aP)) (fun _ _ _ _ => trivial) ?_ ?_ (32 * 2 ^ n) 0 0 (by omega) trivial (h b s hT)
  · exact ⟨_, key⟩
  · intro N x _ hp
    exact pk_le (32 * 2 ^ n) (32 * 2 ^ n) (fun _ => hp) (fun z => by omega)
  · intro N i x hi _ hp
    refine pk_le (32 * 2 ^ n) i (fun z => by omega) (fun _ => yc_pos hn hY.2.1 hY.2.2.1 hT hi ?_)
    unfold fd_cn at hp
    cases e : fd_ps aL aR aC aT n c i with
    | false =>
      rw [e, if_neg (fun z => nomatch z)] at hp
      exact br_t rfl (nm_r (nI_1 i) hp)
    | true =>
      rw [e, if_pos rfl] at hp
      exact br_f (by decide) (nm_e (nm_r (nI_1 i) hp))
theorem fd_ifeq {a b : Bool} : ((if a = true then (1 : Int32) else 0) = (if b = true then (1 : Int32) else 0)) ↔ (a != b) = false := by
  cases a <;> cases b <;> decide
theorem yc_s55 {post : Int32 → SY → Prop} (hn : n ≤ 5) (y z : Int32) (h0 : y ||| z = 0 → post 0 (nI n, nI c, nI l, w, aL, aR, aC, aT, aD, aE, aW, aS, aP)) (h1 : ¬ y ||| z = 0 → post (nI (fd_cb (fun k => bt y k != bt z k) (5 + n))) (nI n, nI c, nI l, w, aL, aR, aC, aT, aD, aE, aW, aS, aP)) : ∃ N, wY_settled_55 post y z (nI n) (nI c) (nI l) w aL aR aC aT aD aE aW aS aP N 0 0 := by
  by_cases t : y ||| z = 0
  · exact ⟨1, pk_le (5 + n) 0 (fun z => by omega) (fun _ => br_t t (h0 t)) (hx := yc_ac)⟩
  · refine loop_0 (fun N a (s : Int32) => wY_settled_55 post y z (nI n) (nI c) (nI l) w aL aR aC aT aD aE aW aS aP N s (nI a)) (fun a s => s = nI (fd_cb (fun k => bt y k != bt z k) a)) (5 + n) 0 rfl ?_ ?_
    · intro N s hs
      refine pk_le (5 + n) (5 + n) (fun _ => ?_) (fun z => by omega) (hx := yc_ac)
      rw [hs]
      exact h1 t
    · intro N a s ha hs next
      refine pk_le (5 + n) a (fun z => by omega) (fun _ => br_f t ?_) (hx := yc_ac)
      rw [fd_bit y (by omega), fd_bit z (by omega), fd_ifeq]
      have e : fd_cb (fun k => bt y k != bt z k) (a + 1) = fd_cb (fun k => bt y k != bt z k) a + (if (bt y a != bt z a) = true then 1 else 0) := rfl
      refine br_c (fun q => nm_r (nI_1 a) (next s ?_)) (fun q => nm_r (e' := nI (fd_cb (fun k => bt y k != bt z k) (a + 1))) ?_ (nm_r (nI_1 a) (next _ rfl)))
      · rw [e, q, hs]
        rfl
      · rw [e, if_pos (Bool.not_eq_false _ ▸ q), hs, nI_1]
theorem yc_settled {post : Int32 → SY → Prop} (hY : fd_BY n c w aL aR aC aT aW aS) (h : ∀ (b s : Nat → Int32) (y z : Int32), fd_tab n aL aR aC b s → fd_sY (fd_ps aL aR aC aT n c) (32 * 2 ^ n) y z → (y ||| z = 0 → post 0 (nI n, nI c, nI l, nI n, aL, aR, aC, aT, aD, aE, b, s, aP)) ∧ (¬ y ||| z = 0 → post (nI (fd_cb (fun k => bt y k != bt z k) (5 + n))) (nI n, nI c, nI l, nI n, aL, aR, aC, aT, aD, aE, b, s, aP))) : wpY_settled post (nI n, nI c, nI l, w, aL, aR, aC, aT, aD, aE, aW, aS, aP) := by
  have hn := hY.1.1
  have h2 := fd_2n hn
  unfold wpY_settled
  dsimp only
  refine yc_all hY (fun b s hT => ?_)
  dsimp only
  refine loop_0 (fun N i (x : Int32 × Int32) => wY_settled_12 post (nI (32 * 2 ^ n)) (nI n) (nI c) (nI l) (nI n) aL aR aC aT aD aE b s aP N x.1 x.2 (nI i)) (fun i x => fd_sY (fd_ps aL aR aC aT n c) i x.1 x.2) (32 * 2 ^ n) (0, 0) fd_sY0 ?_ ?_
  · rintro N ⟨y, z⟩ hs
    have k := h b s y z hT hs
    exact pk_le (32 * 2 ^ n) (32 * 2 ^ n) (fun _ => yc_s55 hn y z k.1 k.2) (fun z => by omega)
  · rintro N i ⟨y, z⟩ hi hs next
    refine pk_le (32 * 2 ^ n) i (fun z => by omega) (fun _ => yc_pos hn hY.2.1 hY.2.2.1 hT hi ?_)
    cases e : fd_ps aL aR aC aT n c i with
    | false => exact br_t rfl (nm_r (nI_1 i) (next (y, z) (fd_sYf hs e)))
    | true => exact br_f (by decide) (nm_e (nm_e (nm_r (nI_1 i) (next (y ||| nI i, z ||| (nI i ^^^ (-1))) (fd_sYt hs e)))))
theorem fd_iniG {L R : Nat → Nat} {C : Nat → Int} {ch : Nat} (hC : ∀ d, -1000 ≤ C d ∧ C d ≤ 1000) : ∀ k, fd_rg 1001 (fd_ini L R C ch k)
  | 0 => fun i j _ _ => by
    show fd_P0 i j = 1000000000 ∨ (-1001 ≤ fd_P0 i j ∧ fd_P0 i j ≤ 1001)
    unfold fd_P0
    split <;> omega
  | k + 1 => by
    intro i j hi hj
    have h1 := fd_iniG (L := L) (R := R) (ch := ch) hC k i j hi hj
    have h2 := hC k
    simp only [fd_ini]
    split <;> unfold fd_put <;> split <;> omega
theorem fd_vnG {P : Nat → Nat → Int} (h : fd_rg 1001 P) : ∀ k, k ≤ 5 → ∀ Q, fd_vn (some P) k = some Q → fd_rg (fd_Bk k) Q
  | 0, _, Q, e => by
    cases e
    exact h
  | k + 1, hk, Q, e => by
    simp only [fd_vn] at e
    cases z : fd_vn (some P) k with
    | none =>
      rw [z] at e
      exact nomatch e
    | some R =>
      rw [z] at e
      have ih := fd_vnG h k (by omega) R z
      simp only [fd_vo] at e
      split at e
      · exact nomatch e
      · cases e
        exact fd_viaG (by omega) (fd_BkB k (by omega)).1 ih
theorem fd_rsG {ch : Nat} {P : Nat → Nat → Int} (hD : fd_D n aL aR aC) (h : fd_rs aL aR aC n ch = some P) : fd_rg 32032 P := by
  unfold fd_rs fd_res at h
  cases z : fd_vn (some (fd_ini (fun d => (aL d).toNatClampNeg) (fun d => (aR d).toNatClampNeg) (fun d => (aC d).toInt) ch n)) 5 with
  | none =>
    rw [z] at h
    exact nomatch h
  | some Q =>
    rw [z] at h
    have k := fd_vnG (fd_iniG (fun d => (hD.2 d).2.2) n) 5 (by omega) Q z
    simp only [fd_fin] at h
    split at h
    · exact nomatch h
    · cases h
      exact k
theorem yc_greatest {post : Int64 → SY → Prop} (hY : fd_BY n c w aL aR aC aT aW aS) {i j : Nat} (hi : i < 5) (hj : j < 5) (hij : ¬ nI i = nI j) (h : ∀ (b s : Nat → Int32) (r : Int64), fd_tab n aL aR aC b s → fd_gR (fd_ps aL aR aC aT n c) (fd_vl aL aR aC n i j) (32 * 2 ^ n) r → post r (nI n, nI c, nI l, nI n, aL, aR, aC, aT, aD, aE, b, s, aP)) : wpY_greatest post (nI n, nI c, nI l, w, aL, aR, aC, aT, aD, aE, aW, aS, aP) (nI i) (nI j) := by
  have hn := hY.1.1
  have h2 := fd_2n hn
  unfold wpY_greatest
  dsimp only
  refine yc_var (nI i) (fun _ => br_f (by decide) (yc_var (nI j) (fun _ => br_f (by decide) (br_f hij ?_)) (fun z => (z ⟨j, hj, rfl⟩).elim))) (fun z => (z ⟨i, hi, rfl⟩).elim)
  refine yc_all hY (fun b s hT => ?_)
  dsimp only
  refine loop_0 (fun N p (x : Int64) => wY_greatest_36 post (nI i) (nI j) (nI (32 * 2 ^ n)) (nI n) (nI c) (nI l) (nI n) aL aR aC aT aD aE b s aP N x (nI p)) (fun p x => fd_gI (fd_ps aL aR aC aT n c) (fd_vl aL aR aC n i j) p x) (32 * 2 ^ n) 3000000000 fd_g0 ?_ ?_
  · intro N best hs
    exact pk_le (32 * 2 ^ n) (32 * 2 ^ n) (fun _ => h b s best hT (Or.inr hs)) (fun z => by omega)
  · intro N p best hp hs next
    refine pk_le (32 * 2 ^ n) p (fun z => by omega) (fun _ => yc_pos hn hY.2.1 hY.2.2.1 hT hp ?_)
    cases e : fd_ps aL aR aC aT n c p with
    | false => exact br_t rfl (nm_r (nI_1 p) (next best (fd_gN hs (by omega) (fun p' q1 q2 => by
        have : p' = p := by omega
        rw [this]
        exact e))))
    | true =>
      refine br_f (by decide) ?_
      obtain ⟨P, hP⟩ := fd_psS e
      have gw := (hT (p / 32) (by omega)).2 P hP i j hi hj
      have ev : fd_vl aL aR aC n i j p = P i j := fd_vlS hP
      have ei : 25 * (nI p >>> ((5 : Int32) &&& 31)) + 5 * nI j + nI i = nI (25 * (p / 32) + 5 * j + i) := by
        rw [pk_shrN (n := p) (by omega) ((5 : Int32) &&& 31) 5 (by decide), show (2 : Nat) ^ 5 = 32 from rfl, fd_25, fd_5, nI_add, nI_add]
      rw [ei]
      refine ⟨vp_in_nI (by omega) (by omega), nm_r (congrArg b (nI_clamp (by omega))) (br_c (fun z => h b s _ hT (Or.inl ⟨rfl, p, hp, e, ?_⟩)) (fun z => ?_))⟩
      · rw [ev]
        rw [fd_eqI, fd_z6] at z
        unfold fd_gw at gw
        have rg := fd_rsG hY.1 hP i j hi hj
        omega
      · rw [fd_eqI, fd_z6] at z
        have gx : P i j ≠ 1000000000 ∧ (b (25 * (p / 32) + 5 * j + i)).toInt = P i j := by
          unfold fd_gw at gw
          omega
        obtain ⟨k1, k2⟩ := fd_gStep (q' := p + 1) hs (by omega) (P i j) (b (25 * (p / 32) + 5 * j + i)) gx.1 gx.2 (fun p' q1 q2 => by
          have : p' = p := by omega
          rw [this]
          exact ev) ⟨p, by omega, by omega, e⟩
        exact br_c (fun y => nm_r (nI_1 p) (next _ (k1 y))) (fun y => br_c (fun x => nm_r (nI_1 p) (next _ ((k2 y).1 x))) (fun x => nm_r (nI_1 p) (next _ ((k2 y).2 x))))
def fd_ft (p : Nat) (v : Int32) : Bool := decide (v = -1) || fd_lh p v
theorem yc_ft {A B : Prop} {p : Nat} {v : Int32} (hv : fd_lt v) (hA : fd_ft p v = true → A) (hB : fd_ft p v = false → B) : (v < 0 → A) ∧ (¬ v < 0 → wpY_holds (fun r => (r = 0 → B) ∧ (¬ r = 0 → A)) (nI p) v) := by
  rcases hv with e | ⟨a, ha, e⟩
  · refine br_t (by rw [e]; decide) (hA ?_)
    unfold fd_ft
    rw [decide_eq_true e, Bool.true_or]
  · subst e
    have ef : fd_ft p (nI a) = fd_lh p (nI a) := by
      unfold fd_ft
      rw [decide_eq_false (fd_nIm1 (by omega)), Bool.false_or]
    rw [ef] at hA hB
    refine br_f (nI_pos (by omega)) (yc_holds ha ?_)
    cases z : fd_lh p (nI a) with
    | false => exact br_t rfl (hB z)
    | true => exact br_f (by decide) (hA z)
theorem yc_check {post : Int32 → SY → Prop} (hY : fd_BY n c w aL aR aC aT aW aS) {v1 v2 v3 : Int32} (m1 : fd_may n v1) (m2 : fd_may n v2) (m3 : fd_may n v3) (h : ∀ b s : Nat → Int32, fd_tab n aL aR aC b s → post (fd_b (fd_ex (fun p => fd_ft p v1 && (fd_ft p v2 && (fd_ft p v3 && fd_ps aL aR aC aT n c p))) (32 * 2 ^ n) 0)) (nI n, nI c, nI l, nI n, aL, aR, aC, aT, aD, aE, b, s, aP)) : wpY_check post (nI n, nI c, nI l, w, aL, aR, aC, aT, aD, aE, aW, aS, aP) v1 v2 v3 := by
  have hn := hY.1.1
  have h2 := fd_2n hn
  unfold wpY_check
  dsimp only
  refine yc_may hn v1 (fun _ => br_f (by decide) (yc_may hn v2 (fun _ => br_f (by decide) (yc_may hn v3 (fun _ => br_f (by decide) ?_) (fun z => (z m3).elim))) (fun z => (z m2).elim))) (fun z => (z m1).elim)
  refine yc_all hY (fun b s hT => ?_)
  dsimp only
  have key := fd_look (fun N i => wY_check_35 post v1 v2 v3 (nI (32 * 2 ^ n)) (nI n) (nI c) (nI l) (nI n) aL aR aC aT aD aE b s aP N (nI i)) (fun p => fd_ft p v1 && (fd_ft p v2 && (fd_ft p v3 && fd_ps aL aR aC aT n c p))) (32 * 2 ^ n) (post 1 (nI n, nI c, nI l, nI n, aL, aR, aC, aT, aD, aE, b, s, aP)) (post 0 (nI n, nI c, nI l, nI n, aL, aR, aC, aT, aD, aE, b, s, aP)) ?_ ?_ ?_ (32 * 2 ^ n) 0 (by omega) ?_ ?_
  · exact ⟨_, key⟩
  · intro N hp
    exact pk_le (32 * 2 ^ n) (32 * 2 ^ n) (fun _ => hp) (fun z => by omega)
  · intro N i hi hq hp
    simp only [Bool.and_eq_true] at hq
    obtain ⟨q1, q2, q3, q4⟩ := hq
    refine pk_le (32 * 2 ^ n) i (fun z => by omega) (fun _ => yc_ft (fd_mayL hn m1) (fun _ => yc_ft (fd_mayL hn m2) (fun _ => yc_ft (fd_mayL hn m3) (fun _ => ?_) (fun z => ?_)) (fun z => ?_)) (fun z => ?_))
    · refine br_f (by decide) (yc_pos hn hY.2.1 hY.2.2.1 hT hi (br_f (fd_bn1 q4) hp))
    · rw [q3] at z; exact nomatch z
    · rw [q2] at z; exact nomatch z
    · rw [q1] at z; exact nomatch z
  · intro N i hi hq hp
    refine pk_le (32 * 2 ^ n) i (fun z => by omega) (fun _ => yc_ft (fd_mayL hn m1) (fun z1 => yc_ft (fd_mayL hn m2) (fun z2 => yc_ft (fd_mayL hn m3) (fun z3 => ?_) (fun z => ?_)) (fun z => ?_)) (fun z => ?_))
    · rw [z1, z2, z3, Bool.true_and, Bool.true_and, Bool.true_and] at hq
      exact br_f (by decide) (yc_pos hn hY.2.1 hY.2.2.1 hT hi (br_t (fd_bn0 hq) (nm_r (nI_1 i) hp)))
    · exact br_t rfl (nm_r (nI_1 i) hp)
    · exact br_t rfl (nm_r (nI_1 i) hp)
    · exact br_t rfl (nm_r (nI_1 i) hp)
  · intro e
    have := h b s hT
    rw [e] at this
    exact this
  · intro e
    have := h b s hT
    rw [e] at this
    exact this
theorem yc_implied {post : Int32 → SY → Prop} (hY : fd_BY n c w aL aR aC aT aW aS) {a : Nat} (ha : a < 10 + 2 * n) (h : ∀ b s : Nat → Int32, fd_tab n aL aR aC b s → post (fd_b (!(fd_ex (fun p => !(fd_lh p (nI a)) && fd_ps aL aR aC aT n c p) (32 * 2 ^ n) 0))) (nI n, nI c, nI l, nI n, aL, aR, aC, aT, aD, aE, b, s, aP)) : wpY_implied post (nI n, nI c, nI l, w, aL, aR, aC, aT, aD, aE, aW, aS, aP) (nI a) := by
  have hn := hY.1.1
  have h2 := fd_2n hn
  unfold wpY_implied
  dsimp only
  refine yc_isLit hn (nI a) (fun _ => br_f (by decide) ?_) (fun z => (z ⟨a, ha, rfl⟩).elim)
  refine yc_all hY (fun b s hT => ?_)
  dsimp only
  have key := fd_look (fun N i => wY_implied_17 post (nI a) (nI (32 * 2 ^ n)) (nI n) (nI c) (nI l) (nI n) aL aR aC aT aD aE b s aP N (nI i)) (fun p => !(fd_lh p (nI a)) && fd_ps aL aR aC aT n c p) (32 * 2 ^ n) (post 0 (nI n, nI c, nI l, nI n, aL, aR, aC, aT, aD, aE, b, s, aP)) (post 1 (nI n, nI c, nI l, nI n, aL, aR, aC, aT, aD, aE, b, s, aP)) ?_ ?_ ?_ (32 * 2 ^ n) 0 (by omega) ?_ ?_
  · exact ⟨_, key⟩
  · intro N hp
    exact pk_le (32 * 2 ^ n) (32 * 2 ^ n) (fun _ => hp) (fun z => by omega)
  · intro N i hi hq hp
    rw [Bool.and_eq_true, Bool.not_eq_true'] at hq
    exact pk_le (32 * 2 ^ n) i (fun z => by omega) (fun _ => yc_holds (by omega) (br_t (fd_bn0 hq.1) (yc_pos hn hY.2.1 hY.2.2.1 hT hi (br_f (fd_bn1 hq.2) hp))))
  · intro N i hi hq hp
    refine pk_le (32 * 2 ^ n) i (fun z => by omega) (fun _ => yc_holds (by omega) ?_)
    cases z : fd_lh i (nI a) with
    | true => exact br_f (by decide) (nm_r (nI_1 i) hp)
    | false =>
      rw [z] at hq
      exact br_t rfl (yc_pos hn hY.2.1 hY.2.2.1 hT hi (br_t (fd_bn0 hq) (nm_r (nI_1 i) hp)))
  · intro e
    have := h b s hT
    rw [e] at this
    exact this
  · intro e
    have := h b s hT
    rw [e] at this
    exact this
end
end
section
/-! the relation, and what is owed -/
section
def fd_Inv (n c l H : Nat) (w : Int32) (aL aR aC aY aN aD aE aP aT aW aS : Nat → Int32) : Prop :=
  fd_D n aL aR aC ∧ (c ≤ H ∧ H ≤ 24 ∧ l ≤ 4) ∧ (∀ k, ∃ m : Nat, m ≤ 5 ∧ aD k = nI m) ∧ (∀ k, ∃ m : Nat, m ≤ H ∧ aE k = nI m) ∧ fd_pr aP ∧ (∀ k, k < H → fd_cr aY aN aT k) ∧ (∀ k, k < 4 * H → fd_lt (aT k)) ∧ (w = nI n → fd_tab n aL aR aC aW aS)
def i_Rel (_ : Nat) (u : SX) (v : SY) : Prop := ∃ (n c l H : Nat) (w : Int32) (aL aR aC aY aN aD aE aP aQ aB aT aW aS : Nat → Int32), u = (nI n, nI c, nI l, aL, aR, aC, aY, aN, aD, aE, aP, aQ, aB) ∧ v = (nI n, nI c, nI l, w, aL, aR, aC, aT, aD, aE, aW, aS, aP) ∧ fd_Inv n c l H w aL aR aC aY aN aD aE aP aT aW aS
theorem i_up {k : Nat} {u : SX} {v : SY} (h : i_Rel k u v) : i_Rel (k + 5) u v := h
end
section
variable {n c l H k0 : Nat} {w : Int32} {aL aR aC aY aN aD aE aP aQ aB aT aW aS : Nat → Int32}
theorem fd_mkR (h : fd_Inv n c l H w aL aR aC aY aN aD aE aP aT aW aS) : i_Rel k0 (nI n, nI c, nI l, aL, aR, aC, aY, aN, aD, aE, aP, aQ, aB) (nI n, nI c, nI l, w, aL, aR, aC, aT, aD, aE, aW, aS, aP) := ⟨n, c, l, H, w, aL, aR, aC, aY, aN, aD, aE, aP, aQ, aB, aT, aW, aS, rfl, rfl, h⟩
theorem fd_invX (h : fd_Inv n c l H w aL aR aC aY aN aD aE aP aT aW aS) : fd_BX n c aL aR aC aT aY aN := ⟨h.1, by have := h.2.1; omega, fun k hk => h.2.2.2.2.2.1 k (by have := h.2.1; omega)⟩
theorem fd_invY (h : fd_Inv n c l H w aL aR aC aY aN aD aE aP aT aW aS) : fd_BY n c w aL aR aC aT aW aS := ⟨h.1, by have := h.2.1; omega, fun k hk => h.2.2.2.2.2.2.1 k (by have := h.2.1; omega), h.2.2.2.2.2.2.2⟩
theorem fd_invT {b s : Nat → Int32} (h : fd_Inv n c l H w aL aR aC aY aN aD aE aP aT aW aS) (hT : fd_tab n aL aR aC b s) : fd_Inv n c l H (nI n) aL aR aC aY aN aD aE aP aT b s := ⟨h.1, h.2.1, h.2.2.1, h.2.2.2.1, h.2.2.2.2.1, h.2.2.2.2.2.1, h.2.2.2.2.2.2.1, fun _ => hT⟩
/-! check, implied -/
theorem fd_ftI (p : Nat) (v : Int32) : fd_ft p v = true ↔ (v = -1 ∨ fd_lh p v = true) := by
  unfold fd_ft
  rw [Bool.or_eq_true, decide_eq_true_eq]
theorem xc_check {post : Int32 → SX → Prop} (hX : fd_BX n c aL aR aC aT aY aN) {v1 v2 v3 : Int32} (m1 : fd_may n v1) (m2 : fd_may n v2) (m3 : fd_may n v3) (h : ∀ qq b : Nat → Int32, post (fd_b (fd_ex (fun p => fd_ft p v1 && (fd_ft p v2 && (fd_ft p v3 && fd_ps aL aR aC aT n c p))) (32 * 2 ^ n) 0)) (nI n, nI c, nI l, aL, aR, aC, aY, aN, aD, aE, aP, qq, b)) : wpX_check post (nI n, nI c, nI l, aL, aR, aC, aY, aN, aD, aE, aP, aQ, aB) v1 v2 v3 := by
  have hn := hX.1.1
  have h2 := fd_2n hn
  have t1 := fd_mayL hn m1
  have t2 := fd_mayL hn m2
  have t3 := fd_mayL hn m3
  unfold wpX_check
  dsimp only
  refine xc_may hn v1 (fun _ => br_f (by decide) (xc_may hn v2 (fun _ => br_f (by decide) (xc_may hn v3 (fun _ => br_f (by decide) ?_) (fun z => (z m3).elim))) (fun z => (z m2).elim))) (fun z => (z m1).elim)
  refine xc_yes t1 (xc_yes t2 (xc_yes t3 (nm_e (xc_no t1 (xc_no t2 (xc_no t3 (nm_e ?_)))))))
  refine xc_has hX _ _ (fun p => fd_ft p v1 && (fd_ft p v2 && (fd_ft p v3 && fd_ps aL aR aC aT n c p))) ?_ (fun qq b => ?_)
  · intro p hp
    have k1 := fd_lit2 p t1
    have k2 := fd_lit2 p t2
    have k3 := fd_lit2 p t3
    simp only [Bool.and_eq_true]
    rw [fd_ftI, fd_ftI, fd_ftI, ← k1, ← k2, ← k3, fd_or1, fd_or1, fd_or0, fd_or0]
    constructor
    · rintro ⟨⟨a1, b1⟩, ⟨a2, b2⟩, ⟨a3, b3⟩, d⟩
      exact ⟨d, ⟨⟨a1, a2⟩, a3⟩, ⟨⟨b1, b2⟩, b3⟩⟩
    · rintro ⟨d, ⟨⟨a1, a2⟩, a3⟩, ⟨⟨b1, b2⟩, b3⟩⟩
      exact ⟨⟨a1, b1⟩, ⟨a2, b2⟩, ⟨a3, b3⟩, d⟩
  · have := h qq b
    cases e : fd_ex (fun p => fd_ft p v1 && (fd_ft p v2 && (fd_ft p v3 && fd_ps aL aR aC aT n c p))) (32 * 2 ^ n) 0 with
    | false =>
      rw [e] at this
      exact br_t rfl this
    | true =>
      rw [e] at this
      exact br_f (by decide) this
theorem xc_checkR {post : Int32 → SX → Prop} (hn : n ≤ 5) {v1 v2 v3 : Int32} (hr : ¬ (fd_may n v1 ∧ fd_may n v2 ∧ fd_may n v3)) (h : post (-1) (nI n, nI c, nI l, aL, aR, aC, aY, aN, aD, aE, aP, aQ, aB)) : wpX_check post (nI n, nI c, nI l, aL, aR, aC, aY, aN, aD, aE, aP, aQ, aB) v1 v2 v3 := by
  unfold wpX_check
  dsimp only
  exact xc_may hn v1 (fun a => br_f (by decide) (xc_may hn v2 (fun b => br_f (by decide) (xc_may hn v3 (fun d => (hr ⟨a, b, d⟩).elim) (fun _ => br_t rfl h))) (fun _ => br_t rfl h))) (fun _ => br_t rfl h)
theorem yc_checkR {post : Int32 → SY → Prop} (hn : n ≤ 5) {v1 v2 v3 : Int32} (hr : ¬ (fd_may n v1 ∧ fd_may n v2 ∧ fd_may n v3)) (h : post (-1) (nI n, nI c, nI l, w, aL, aR, aC, aT, aD, aE, aW, aS, aP)) : wpY_check post (nI n, nI c, nI l, w, aL, aR, aC, aT, aD, aE, aW, aS, aP) v1 v2 v3 := by
  unfold wpY_check
  dsimp only
  exact yc_may hn v1 (fun a => br_f (by decide) (yc_may hn v2 (fun b => br_f (by decide) (yc_may hn v3 (fun d => (hr ⟨a, b, d⟩).elim) (fun _ => br_t rfl h))) (fun _ => br_t rfl h))) (fun _ => br_t rfl h)
theorem xc_implied {post : Int32 → SX → Prop} (hX : fd_BX n c aL aR aC aT aY aN) {a : Nat} (ha : a < 10 + 2 * n) (h : ∀ qq b : Nat → Int32, post (fd_b (!(fd_ex (fun p => !(fd_lh p (nI a)) && fd_ps aL aR aC aT n c p) (32 * 2 ^ n) 0))) (nI n, nI c, nI l, aL, aR, aC, aY, aN, aD, aE, aP, qq, b)) : wpX_implied post (nI n, nI c, nI l, aL, aR, aC, aY, aN, aD, aE, aP, aQ, aB) (nI a) := by
  have hn := hX.1.1
  have t1 : fd_lt (nI a) := Or.inr ⟨a, by omega, rfl⟩
  unfold wpX_implied
  dsimp only
  refine xc_isLit hn (nI a) (fun _ => br_f (by decide) ?_) (fun z => (z ⟨a, ha, rfl⟩).elim)
  refine xc_no t1 (xc_yes t1 ?_)
  refine xc_has hX _ _ (fun p => !(fd_lh p (nI a)) && fd_ps aL aR aC aT n c p) ?_ (fun qq b => ?_)
  · intro p hp
    rw [Bool.and_eq_true, Bool.not_eq_true', ← fd_lit3 p (by omega)]
    constructor
    · rintro ⟨⟨a1, b1⟩, d⟩
      exact ⟨d, a1, b1⟩
    · rintro ⟨d, a1, b1⟩
      exact ⟨⟨a1, b1⟩, d⟩
  · have := h qq b
    cases e : fd_ex (fun p => !(fd_lh p (nI a)) && fd_ps aL aR aC aT n c p) (32 * 2 ^ n) 0 with
    | false =>
      rw [e] at this
      exact br_t rfl this
    | true =>
      rw [e] at this
      exact br_f (by decide) this
/-! the least cost is below every possible pattern's -/
theorem fd_mnL (ps : Nat → Bool) (ct : Nat → Nat) (i : Nat) (s : Int64) : fd_mn ps ct i s ≤ s ∧ (ps i = true → fd_mn ps ct i s ≤ lN (ct i)) := by
  unfold fd_mn
  by_cases z : ps i = true ∧ lN (ct i) < s
  · rw [if_pos z]
    exact ⟨Int64.le_of_lt z.2, fun _ => Int64.le_refl _⟩
  · rw [if_neg z]
    exact ⟨Int64.le_refl _, fun q => Int64.not_lt.mp (fun y => z ⟨q, y⟩)⟩
theorem fd_mnS (ps : Nat → Bool) (ct : Nat → Nat) : ∀ d i s, fd_lo (fd_mn ps ct) d i s ≤ s
  | 0, _, s => Int64.le_refl s
  | d + 1, i, s => Int64.le_trans (fd_mnS ps ct d (i + 1) (fd_mn ps ct i s)) (fd_mnL ps ct i s).1
theorem fd_mnP (ps : Nat → Bool) (ct : Nat → Nat) (p : Nat) (hp : ps p = true) : ∀ d i s, i ≤ p → p < i + d → fd_lo (fd_mn ps ct) d i s ≤ lN (ct p)
  | 0, i, s, h1, h2 => by omega
  | d + 1, i, s, h1, h2 => by
    by_cases e : p = i
    · subst e
      exact Int64.le_trans (fd_mnS ps ct d (p + 1) (fd_mn ps ct p s)) ((fd_mnL ps ct p s).2 hp)
    · exact fd_mnP ps ct p hp d (i + 1) (fd_mn ps ct i s) (by omega) (by omega)
theorem fd_ctN {p : Nat} (hn : n ≤ 5) (hpr : fd_pr aP) : ¬ (3000000000 : Int64) < lN (fd_ct aP p (5 + n)) := by
  have := fd_ctB hpr p (5 + n)
  rw [Int64.lt_iff_toInt_lt, pk_lT (by omega), show (3000000000 : Int64).toInt = 3000000000 from by decide]
  omega
end
theorem fd_z1 : -1000 ≤ (0 : Int32).toInt := by decide
theorem fd_z2 : (0 : Int32).toInt ≤ 1000 := by decide
theorem i_vc0 : wpX_init (fun u => wpY_init (fun v => i_Rel 0 u v)) := by
  refine fd_mkR (k0 := 0) (n := 0) (c := 0) (l := 0) (H := 0) ⟨⟨by omega, fun d => ⟨⟨0, by omega, rfl⟩, ⟨0, by omega, rfl⟩, fd_z1, fd_z2⟩⟩, ⟨by omega, by omega, by omega⟩, fun k => ⟨0, by omega, rfl⟩, fun k => ⟨0, by omega, rfl⟩, fun k => ⟨0, by omega, rfl⟩, fun k hk => by omega, fun k hk => by omega, fun z => ?_⟩
  exact (fd_nIm1 (a := 0) (by omega) z.symm).elim
theorem i_vc_check {k : Nat} {u : SX} {v : SY} (I : i_Rel k u v) (hk : k + 5 ≤ 2560) (v1 : Int32) (v2 : Int32) (v3 : Int32) : wpX_check (fun r u' => wpY_check (fun r' v' => r' = r ∧ i_Rel (k + 5) u' v') v v1 v2 v3) u v1 v2 v3 := by
  obtain ⟨n, c, l, H, w, aL, aR, aC, aY, aN, aD, aE, aP, aQ, aB, aT, aW, aS, rfl, rfl, hI⟩ := I
  have hn := hI.1.1
  by_cases m : fd_may n v1 ∧ fd_may n v2 ∧ fd_may n v3
  · exact xc_check (fd_invX hI) m.1 m.2.1 m.2.2 (fun qq b => yc_check (fd_invY hI) m.1 m.2.1 m.2.2 (fun b' s' hT => ⟨rfl, fd_mkR (fd_invT hI hT)⟩))
  · exact xc_checkR hn m (yc_checkR hn m ⟨rfl, fd_mkR hI⟩)
theorem i_vc_implied {k : Nat} {u : SX} {v : SY} (I : i_Rel k u v) (hk : k + 5 ≤ 2560) (v1 : Int32) : wpX_implied (fun r u' => wpY_implied (fun r' v' => r' = r ∧ i_Rel (k + 5) u' v') v v1) u v1 := by
  obtain ⟨n, c, l, H, w, aL, aR, aC, aY, aN, aD, aE, aP, aQ, aB, aT, aW, aS, rfl, rfl, hI⟩ := I
  have hn := hI.1.1
  by_cases m : fd_isl n v1
  · obtain ⟨a, ha, rfl⟩ := m
    exact xc_implied (fd_invX hI) ha (fun qq b => yc_implied (fd_invY hI) ha (fun b' s' hT => ⟨rfl, fd_mkR (fd_invT hI hT)⟩))
  · unfold wpX_implied
    dsimp only
    refine xc_isLit hn v1 (fun z => (m z).elim) (fun _ => br_t rfl ?_)
    unfold wpY_implied
    dsimp only
    exact yc_isLit hn v1 (fun z => (m z).elim) (fun _ => br_t rfl ⟨rfl, fd_mkR hI⟩)
theorem i_vc_greatest {k : Nat} {u : SX} {v : SY} (I : i_Rel k u v) (hk : k + 5 ≤ 2560) (v1 : Int32) (v2 : Int32) : wpX_greatest (fun r u' => wpY_greatest (fun r' v' => r' = r ∧ i_Rel (k + 5) u' v') v v1 v2) u v1 v2 := by
  obtain ⟨n, c, l, H, w, aL, aR, aC, aY, aN, aD, aE, aP, aQ, aB, aT, aW, aS, rfl, rfl, hI⟩ := I
  have hn := hI.1.1
  by_cases m : fd_var v1 ∧ fd_var v2 ∧ ¬ v1 = v2
  · obtain ⟨⟨i, hi, rfl⟩, ⟨j, hj, rfl⟩, hij⟩ := m
    exact xc_greatest (fd_invX hI) hi hj hij (fun qq b r hr => yc_greatest (fd_invY hI) hi hj hij (fun b' s' r' hT hr' => ⟨fd_gU hr hr', fd_mkR (fd_invT hI hT)⟩))
  · unfold wpX_greatest
    dsimp only
    refine xc_two v1 v2 (fun z => (m z).elim) (fun _ => br_t rfl ?_)
    unfold wpY_greatest
    dsimp only
    exact yc_var v1 (fun a => br_f (by decide) (yc_var v2 (fun b => br_f (by decide) (br_c (fun _ => ⟨rfl, fd_mkR hI⟩) (fun d => (m ⟨a, b, d⟩).elim))) (fun _ => br_t rfl ⟨rfl, fd_mkR hI⟩))) (fun _ => br_t rfl ⟨rfl, fd_mkR hI⟩)
theorem i_vc_patterns {k : Nat} {u : SX} {v : SY} (I : i_Rel k u v) (hk : k + 5 ≤ 2560) : wpX_patterns (fun r u' => wpY_patterns (fun r' v' => r' = r ∧ i_Rel (k + 5) u' v') v) u := by
  obtain ⟨n, c, l, H, w, aL, aR, aC, aY, aN, aD, aE, aP, aQ, aB, aT, aW, aS, rfl, rfl, hI⟩ := I
  exact xc_patterns (fd_invX hI) (fun qq b => yc_patterns (fd_invY hI) (fun b' s' hT => ⟨rfl, fd_mkR (fd_invT hI hT)⟩))
theorem i_vc_settled {k : Nat} {u : SX} {v : SY} (I : i_Rel k u v) (hk : k + 5 ≤ 2560) : wpX_settled (fun r u' => wpY_settled (fun r' v' => r' = r ∧ i_Rel (k + 5) u' v') v) u := by
  obtain ⟨n, c, l, H, w, aL, aR, aC, aY, aN, aD, aE, aP, aQ, aB, aT, aW, aS, rfl, rfl, hI⟩ := I
  have hn := hI.1.1
  refine xc_settled (fd_invX hI) (fun qq b ay an f hs => yc_settled (fd_invY hI) (fun b' s' y z hT ht => ?_))
  rcases hs.2.2 with ⟨e, hx⟩ | ⟨e, hx⟩
  · rw [if_neg (by rw [e]; decide), fd_set (by omega) hs ht hx]
    exact ⟨fun q => (fd_sYs ht hx q).elim, fun _ => ⟨rfl, fd_mkR (fd_invT hI hT)⟩⟩
  · rw [if_pos e]
    exact ⟨fun _ => ⟨rfl, fd_mkR (fd_invT hI hT)⟩, fun q => (q (fd_sYn ht hx)).elim⟩
theorem i_vc_cheapest {k : Nat} {u : SX} {v : SY} (I : i_Rel k u v) (hk : k + 5 ≤ 2560) : wpX_cheapest (fun r u' => wpY_cheapest (fun r' v' => r' = r ∧ i_Rel (k + 5) u' v') v) u := by
  obtain ⟨n, c, l, H, w, aL, aR, aC, aY, aN, aD, aE, aP, aQ, aB, aT, aW, aS, rfl, rfl, hI⟩ := I
  have hn := hI.1.1
  have hpr := hI.2.2.2.2.1
  unfold wpX_cheapest
  dsimp only
  refine xc_mark (fd_invX hI) (fun qq b hqq => ?_)
  dsimp only
  exact xc_least hn hpr _ hqq (yc_cheapest (fd_invY hI) hpr (fun b' s' hT => ⟨rfl, fd_mkR (fd_invT hI hT)⟩))
theorem i_vc_first {k : Nat} {u : SX} {v : SY} (I : i_Rel k u v) (hk : k + 5 ≤ 2560) : wpX_first (fun r u' => wpY_first (fun r' v' => r' = r ∧ i_Rel (k + 5) u' v') v) u := by
  obtain ⟨n, c, l, H, w, aL, aR, aC, aY, aN, aD, aE, aP, aQ, aB, aT, aW, aS, rfl, rfl, hI⟩ := I
  have hn := hI.1.1
  have hpr := hI.2.2.2.2.1
  unfold wpX_first
  dsimp only
  refine xc_mark (fd_invX hI) (fun qq b hqq => ?_)
  dsimp only
  exact xc_first hn hpr _ (fd_ps aL aR aC aT n c) _ hqq (fun p hp => ⟨fun z => ⟨z, fd_ctN hn hpr⟩, fun z => z.1⟩) (yc_first (fd_invY hI) (fun b' s' hT => ⟨rfl, fd_mkR (fd_invT hI hT)⟩))
theorem i_vc_firstCheapest {k : Nat} {u : SX} {v : SY} (I : i_Rel k u v) (hk : k + 5 ≤ 2560) : wpX_firstCheapest (fun r u' => wpY_firstCheapest (fun r' v' => r' = r ∧ i_Rel (k + 5) u' v') v) u := by
  obtain ⟨n, c, l, H, w, aL, aR, aC, aY, aN, aD, aE, aP, aQ, aB, aT, aW, aS, rfl, rfl, hI⟩ := I
  have hn := hI.1.1
  have hpr := hI.2.2.2.2.1
  unfold wpX_firstCheapest
  dsimp only
  refine xc_mark (fd_invX hI) (fun qq b hqq => ?_)
  dsimp only
  refine xc_least hn hpr _ hqq ?_
  refine xc_first hn hpr _ (fun p => fd_ps aL aR aC aT n c p && decide (lN (fd_ct aP p (5 + n)) = fd_lo (fd_mn (fd_ps aL aR aC aT n c) (fun p => fd_ct aP p (5 + n))) (32 * 2 ^ n) 0 3000000000)) _ hqq ?_ (yc_firstCheapest (fd_invY hI) hpr _ ?_ (fun b' s' hT => ⟨rfl, fd_mkR (fd_invT hI hT)⟩))
  · intro p hp
    rw [Bool.and_eq_true, decide_eq_true_eq]
    refine ⟨fun z => ⟨z.1, fun y => ?_⟩, fun z => ⟨z.1, ?_⟩⟩
    · rw [z.2] at y
      exact Int64.lt_irrefl y
    · exact Int64.le_antisymm (Int64.not_lt.mp z.2) (fd_mnP _ (fun p => fd_ct aP p (5 + n)) p z.1 (32 * 2 ^ n) 0 3000000000 (by omega) (by omega))
  · intro p hp
    rw [Bool.and_eq_true, decide_eq_true_eq]
theorem i_vc_size {k : Nat} {u : SX} {v : SY} (I : i_Rel k u v) (hk : k + 5 ≤ 2560) : wpX_size (fun r => wpY_size (fun r' => r' = r ∧ i_Rel (k + 5) u v) v) u := by
  obtain ⟨n, c, l, H, w, aL, aR, aC, aY, aN, aD, aE, aP, aQ, aB, aT, aW, aS, rfl, rfl, hI⟩ := I
  exact ⟨rfl, fd_mkR hI⟩
end
section
/-! what is owed: the methods that say something -/
theorem i_vc_push {k : Nat} {u : SX} {v : SY} (I : i_Rel k u v) (hk : k + 5 ≤ 2560) : wpX_push (fun r u' => wpY_push (fun r' v' => r' = r ∧ i_Rel (k + 5) u' v') v) u := by
  obtain ⟨n, c, l, H, w, aL, aR, aC, aY, aN, aD, aE, aP, aQ, aB, aT, aW, aS, rfl, rfl, hI⟩ := I
  obtain ⟨hD, ⟨h1, h2, h3⟩, hd, he, hpr, hcr, hlt, hT⟩ := hI
  have ec : (nI l).toNatClampNeg = l := nI_clamp (by omega)
  unfold wpX_push
  dsimp only
  refine pk_eq l 4 (fun e => ?_) (fun e => ?_)
  · exact br_t (by rw [e]; rfl) ⟨rfl, fd_mkR ⟨hD, ⟨h1, h2, h3⟩, hd, he, hpr, hcr, hlt, hT⟩⟩
  · have hin : vp_in (nI l) 4 := vp_in_nI (by omega) (by omega)
    refine ⟨hin, nm_r (congrArg (fun q => upd aD q (nI n)) ec) ⟨hin, nm_r (congrArg (fun q => upd aE q (nI c)) ec) (nm_r (nI_1 l) ?_)⟩⟩
    unfold wpY_push
    dsimp only
    refine pk_eq l 4 (fun z => (e z).elim) (fun _ => ?_)
    refine ⟨hin, nm_r (congrArg (fun q => upd aD q (nI n)) ec) ⟨hin, nm_r (congrArg (fun q => upd aE q (nI c)) ec) (nm_r (nI_1 l) ⟨rfl, fd_mkR ⟨hD, ⟨h1, h2, by omega⟩, fun q => ?_, fun q => ?_, hpr, hcr, hlt, hT⟩⟩)⟩⟩
    · by_cases y : q = l
      · rw [y, pk_us]
        exact ⟨n, hD.1, rfl⟩
      · rw [pk_un y]
        exact hd q
    · by_cases y : q = l
      · rw [y, pk_us]
        exact ⟨c, h1, rfl⟩
      · rw [pk_un y]
        exact he q
theorem i_vc_pop {k : Nat} {u : SX} {v : SY} (I : i_Rel k u v) (hk : k + 5 ≤ 2560) : wpX_pop (fun r u' => wpY_pop (fun r' v' => r' = r ∧ i_Rel (k + 5) u' v') v) u := by
  obtain ⟨n, c, l, H, w, aL, aR, aC, aY, aN, aD, aE, aP, aQ, aB, aT, aW, aS, rfl, rfl, hI⟩ := I
  obtain ⟨hD, ⟨h1, h2, h3⟩, hd, he, hpr, hcr, hlt, hT⟩ := hI
  unfold wpX_pop
  dsimp only
  refine pk_eq l 0 (fun e => ?_) (fun e => ?_)
  · exact br_t (by rw [e]; rfl) ⟨rfl, fd_mkR ⟨hD, ⟨h1, h2, h3⟩, hd, he, hpr, hcr, hlt, hT⟩⟩
  · obtain ⟨l', rfl⟩ : ∃ l', l = l' + 1 := ⟨l - 1, by omega⟩
    have ec : (nI l').toNatClampNeg = l' := nI_clamp (by omega)
    have hin : vp_in (nI l') 4 := vp_in_nI (by omega) (by omega)
    obtain ⟨m, hm, em⟩ := hd l'
    obtain ⟨m', hm', em'⟩ := he l'
    have e1 : aD (nI l').toNatClampNeg = nI m := by rw [ec]; exact em
    have e2 : aE (nI l').toNatClampNeg = nI m' := by rw [ec]; exact em'
    refine nm_r (nI_pred l') ⟨hin, nm_r e1 ⟨hin, nm_r e2 ?_⟩⟩
    unfold wpY_pop
    dsimp only
    refine pk_eq (l' + 1) 0 (fun z => (e z).elim) (fun _ => nm_r (nI_pred l') ⟨hin, nm_r e1 ⟨hin, nm_r e2 ⟨rfl, fd_mkR ⟨⟨hm, hD.2⟩, ⟨hm', h2, by omega⟩, hd, he, hpr, hcr, hlt, fun z => ?_⟩⟩⟩⟩)
    exact (fd_nIm1 (a := m) (by omega) z.symm).elim
theorem fd_prU {aP : Nat → Int32} (h : fd_pr aP) (k m : Nat) (hm : m ≤ 1000) : fd_pr (upd aP k (nI m)) := by
  intro q
  by_cases y : q = k
  · rw [y, pk_us]
    exact ⟨m, hm, rfl⟩
  · rw [pk_un y]
    exact h q
theorem i_vc_price {k : Nat} {u : SX} {v : SY} (I : i_Rel k u v) (hk : k + 5 ≤ 2560) (v1 : Int32) (v2 : Int32) : wpX_price (fun r u' => wpY_price (fun r' v' => r' = r ∧ i_Rel (k + 5) u' v') v v1 v2) u v1 v2 := by
  obtain ⟨n, c, l, H, w, aL, aR, aC, aY, aN, aD, aE, aP, aQ, aB, aT, aW, aS, rfl, rfl, hI⟩ := I
  have hI' := hI
  obtain ⟨hD, ⟨h1, h2, h3⟩, hd, he, hpr, hcr, hlt, hT⟩ := hI'
  have hn := hD.1
  unfold wpX_price wpY_price
  dsimp only
  refine xc_isLit hn v1 (fun z => br_f (by decide) ?_) (fun z => br_t rfl (yc_isLit hn v1 (fun y => (z y).elim) (fun _ => br_t rfl ⟨rfl, fd_mkR hI⟩)))
  have yy : ∀ {A : Int32 → Prop}, A 1 → wpY_isLiteral A (nI n, nI c, nI l, w, aL, aR, aC, aT, aD, aE, aW, aS, aP) v1 := fun a => yc_isLit hn v1 (fun _ => a) (fun y => (y z).elim)
  refine br_c (fun q => yy (br_f (by decide) (br_t q ⟨rfl, fd_mkR hI⟩))) (fun q => br_c (fun x => ?_) (fun x => yy (br_f (by decide) (br_f q (br_f x ⟨rfl, fd_mkR hI⟩)))))
  obtain ⟨a, ha, rfl⟩ := z
  obtain ⟨m, hm, rfl⟩ := nI_of2 (n := 1000) (by decide) q x
  have hin : vp_in (nI a) 20 := vp_in_nI (by omega) (by omega)
  have ec : (nI a).toNatClampNeg = a := nI_clamp (by omega)
  refine ⟨hin, nm_e ⟨hin, nm_r (congrArg (fun q => upd aP q (nI m)) ec) (yy (br_f (by decide) (br_f q (br_t x ⟨hin, nm_e ⟨hin, nm_r (congrArg (fun q => upd aP q (nI m)) ec) ⟨rfl, fd_mkR ⟨hD, ⟨h1, h2, h3⟩, hd, he, fd_prU hpr a m hm, hcr, hlt, hT⟩⟩⟩⟩))))⟩⟩
theorem fd_DU {n : Nat} {aL aR aC : Nat → Int32} {v1 v2 v3 : Int32} (h : fd_D n aL aR aC) (hn : n + 1 ≤ 5) (h1 : fd_var v1) (h2 : fd_var v2) (h3 : ¬ v3 < -1000) (h4 : v3 ≤ 1000) : fd_D (n + 1) (upd aL n v1) (upd aR n v2) (upd aC n v3) := by
  refine ⟨hn, fun d => ?_⟩
  by_cases y : d = n
  · rw [y, pk_us, pk_us, pk_us]
    rw [fd_ltI, show (-1000 : Int32).toInt = -1000 from by decide] at h3
    rw [fd_leI, show (1000 : Int32).toInt = 1000 from by decide] at h4
    exact ⟨h1, h2, by omega, h4⟩
  · rw [pk_un y, pk_un y, pk_un y]
    exact h.2 d
theorem yc_diff {n c l : Nat} {w : Int32} {aL aR aC aT aD aE aW aS aP : Nat → Int32} {post : Int32 → SY → Prop} {v1 v2 v3 : Int32} (h0 : ¬ (fd_var v1 ∧ fd_var v2 ∧ ¬ v1 = v2) → post (-1) (nI n, nI c, nI l, w, aL, aR, aC, aT, aD, aE, aW, aS, aP)) (h1 : fd_var v1 ∧ fd_var v2 ∧ ¬ v1 = v2 → v3 < -1000 → post (-1) (nI n, nI c, nI l, w, aL, aR, aC, aT, aD, aE, aW, aS, aP)) (h2 : fd_var v1 ∧ fd_var v2 ∧ ¬ v1 = v2 → ¬ v3 < -1000 → ¬ v3 ≤ 1000 → post (-1) (nI n, nI c, nI l, w, aL, aR, aC, aT, aD, aE, aW, aS, aP)) (hn : n ≤ 5)
    (h3 : fd_var v1 ∧ fd_var v2 ∧ ¬ v1 = v2 → ¬ v3 < -1000 → v3 ≤ 1000 → (n = 5 → post (-2) (nI n, nI c, nI l, w, aL, aR, aC, aT, aD, aE, aW, aS, aP)) ∧ (n < 5 → post (nI (5 + n)) (nI (n + 1), nI c, nI l, -1, upd aL n v1, upd aR n v2, upd aC n v3, aT, aD, aE, aW, aS, upd (upd aP (10 + 2 * n) (nI 0)) (11 + 2 * n) (nI 0)))) : wpY_difference post (nI n, nI c, nI l, w, aL, aR, aC, aT, aD, aE, aW, aS, aP) v1 v2 v3 := by
  unfold wpY_difference
  dsimp only
  refine yc_var v1 (fun a => br_f (by decide) (yc_var v2 (fun b => br_f (by decide) (br_c (fun z => h0 (fun y => y.2.2 z)) (fun z => ?_))) (fun z => br_t rfl (h0 (fun y => z y.2.1))))) (fun z => br_t rfl (h0 (fun y => z y.1)))
  refine br_c (fun x => h1 ⟨a, b, z⟩ x) (fun x => br_c (fun y => ?_) (fun y => h2 ⟨a, b, z⟩ x y))
  obtain ⟨g1, g2⟩ := h3 ⟨a, b, z⟩ x y
  refine pk_eq n 5 g1 (fun e => ?_)
  have ec : (nI n).toNatClampNeg = n := nI_clamp (by omega)
  have hin : vp_in (nI n) 5 := vp_in_nI (by omega) (by omega)
  have e1 : (10 : Int32) + 2 * nI n = nI (10 + 2 * n) := by
    show nI 10 + nI 2 * nI n = _
    rw [pk_mul, nI_add]
  have e2 : (11 : Int32) + 2 * nI n = nI (11 + 2 * n) := by
    show nI 11 + nI 2 * nI n = _
    rw [pk_mul, nI_add]
  rw [e1, e2]
  refine ⟨hin, nm_r (congrArg (fun q => upd aL q v1) ec) ⟨hin, nm_r (congrArg (fun q => upd aR q v2) ec) ⟨hin, nm_r (congrArg (fun q => upd aC q v3) ec) ?_⟩⟩⟩
  refine ⟨vp_in_nI (by omega) (by omega), nm_r (congrArg (fun q => upd aP q 0) (nI_clamp (by omega))) ⟨vp_in_nI (by omega) (by omega), nm_r (congrArg (fun q => upd (upd aP (10 + 2 * n) 0) q 0) (nI_clamp (by omega))) (nm_r (nI_1 n) ?_)⟩⟩
  have e3 : (4 : Int32) + nI (n + 1) = nI (5 + n) := by
    show nI 4 + _ = _
    rw [nI_add]
    exact congrArg nI (by omega)
  rw [e3]
  exact g2 (by omega)
theorem i_vc_difference {k : Nat} {u : SX} {v : SY} (I : i_Rel k u v) (hk : k + 5 ≤ 2560) (v1 : Int32) (v2 : Int32) (v3 : Int32) : wpX_difference (fun r u' => wpY_difference (fun r' v' => r' = r ∧ i_Rel (k + 5) u' v') v v1 v2 v3) u v1 v2 v3 := by
  obtain ⟨n, c, l, H, w, aL, aR, aC, aY, aN, aD, aE, aP, aQ, aB, aT, aW, aS, rfl, rfl, hI⟩ := I
  have hI' := hI
  obtain ⟨hD, ⟨h1, h2, h3⟩, hd, he, hpr, hcr, hlt, hT⟩ := hI'
  have hn := hD.1
  unfold wpX_difference
  dsimp only
  refine xc_two v1 v2 (fun m => br_f (by decide) ?_) (fun m => br_t rfl (yc_diff (fun _ => ⟨rfl, fd_mkR hI⟩) (fun z => (m z).elim) (fun z => (m z).elim) hn (fun z => (m z).elim)))
  refine br_c (fun x => yc_diff (fun z => (z m).elim) (fun _ _ => ⟨rfl, fd_mkR hI⟩) (fun _ z => (z x).elim) hn (fun _ z => (z x).elim)) (fun x => br_c (fun y => ?_) (fun y => yc_diff (fun z => (z m).elim) (fun _ z => (x z).elim) (fun _ _ _ => ⟨rfl, fd_mkR hI⟩) hn (fun _ _ z => (y z).elim)))
  refine pk_eq n 5 (fun e => yc_diff (fun z => (z m).elim) (fun _ z => (x z).elim) (fun _ _ z => (z y).elim) hn (fun _ _ _ => ⟨fun _ => ⟨rfl, fd_mkR hI⟩, fun z => by omega⟩)) (fun e => ?_)
  have ec : (nI n).toNatClampNeg = n := nI_clamp (by omega)
  have hin : vp_in (nI n) 5 := vp_in_nI (by omega) (by omega)
  have e1 : (2 : Int32) * nI (5 + n) = nI (10 + 2 * n) := by
    show nI 2 * nI (5 + n) = _
    rw [pk_mul]
    exact congrArg nI (by omega)
  have e2 : nI (10 + 2 * n) + 1 = nI (11 + 2 * n) := by
    rw [nI_1]
    exact congrArg nI (by omega)
  refine nm_r yc_ac ?_
  rw [e1, e2]
  refine ⟨hin, nm_r (congrArg (fun q => upd aL q v1) ec) ⟨hin, nm_r (congrArg (fun q => upd aR q v2) ec) ⟨hin, nm_r (congrArg (fun q => upd aC q v3) ec) ?_⟩⟩⟩
  refine ⟨vp_in_nI (by omega) (by omega), nm_r (congrArg (fun q => upd aP q 0) (nI_clamp (by omega))) ⟨vp_in_nI (by omega) (by omega), nm_r (congrArg (fun q => upd (upd aP (10 + 2 * n) 0) q 0) (nI_clamp (by omega))) (nm_r (nI_1 n) ?_)⟩⟩
  refine yc_diff (fun z => (z m).elim) (fun _ z => (x z).elim) (fun _ _ z => (z y).elim) hn (fun _ _ _ => ⟨fun z => (e z).elim, fun _ => ⟨rfl, ?_⟩⟩)
  exact fd_mkR (H := H) ⟨fd_DU hD (by omega) m.1 m.2.1 x y, ⟨h1, h2, h3⟩, hd, he, fd_prU (fd_prU hpr _ 0 (by omega)) _ 0 (by omega), hcr, hlt, fun z => (fd_nIm1 (a := n + 1) (by omega) z.symm).elim⟩
/-! clause -/
theorem fd_crU {aY aN aT : Nat → Int32} {c : Nat} {v1 v2 v3 v4 : Int32} (t1 : fd_lt v1) (t2 : fd_lt v2) (t3 : fd_lt v3) (t4 : fd_lt v4) (k : Nat) (h : k ≠ c → fd_cr aY aN aT k) : fd_cr (upd aY c (fd_yb v1 ||| fd_yb v2 ||| fd_yb v3 ||| fd_yb v4)) (upd aN c (fd_nb v1 ||| fd_nb v2 ||| fd_nb v3 ||| fd_nb v4)) (upd (upd (upd (upd aT (4 * c) v1) (4 * c + 1) v2) (4 * c + 2) v3) (4 * c + 3) v4) k := by
  by_cases e : k = c
  · subst e
    intro p hp
    have k1 := fd_lit1 p t1
    have k2 := fd_lit1 p t2
    have k3 := fd_lit1 p t3
    have k4 := fd_lit1 p t4
    unfold fd_c1
    rw [pk_us, pk_us, pk_us]
    rw [pk_un (j := 4 * k) (by omega), pk_un (j := 4 * k) (by omega), pk_un (j := 4 * k) (by omega), pk_us]
    rw [pk_un (j := 4 * k + 1) (by omega), pk_un (j := 4 * k + 1) (by omega), pk_us]
    rw [pk_un (j := 4 * k + 2) (by omega), pk_us]
    rw [fd_or0, fd_or0, fd_or0, fd_or0, fd_or0, fd_or0, Bool.or_eq_false_iff, Bool.or_eq_false_iff, Bool.or_eq_false_iff, ← k1, ← k2, ← k3, ← k4]
    constructor
    · rintro ⟨⟨⟨⟨a1, a2⟩, a3⟩, a4⟩, ⟨⟨b1, b2⟩, b3⟩, b4⟩
      exact ⟨⟨⟨⟨a1, b1⟩, ⟨a2, b2⟩⟩, ⟨a3, b3⟩⟩, ⟨a4, b4⟩⟩
    · rintro ⟨⟨⟨⟨a1, b1⟩, ⟨a2, b2⟩⟩, ⟨a3, b3⟩⟩, ⟨a4, b4⟩⟩
      exact ⟨⟨⟨⟨a1, a2⟩, a3⟩, a4⟩, ⟨⟨b1, b2⟩, b3⟩, b4⟩
  · intro p hp
    have hh := h e p hp
    have nt : ∀ j, (j < 4 * c ∨ 4 * c + 3 < j) → upd (upd (upd (upd aT (4 * c) v1) (4 * c + 1) v2) (4 * c + 2) v3) (4 * c + 3) v4 j = aT j := by
      intro j hj
      rw [pk_un (by omega), pk_un (by omega), pk_un (by omega), pk_un (by omega)]
    unfold fd_c1 at hh ⊢
    rw [nt _ (by omega), nt _ (by omega), nt _ (by omega), nt _ (by omega), pk_un e, pk_un e]
    exact hh
theorem yc_clause {n c l : Nat} {w : Int32} {aL aR aC aT aD aE aW aS aP : Nat → Int32} {post : Int32 → SY → Prop} {v1 v2 v3 v4 : Int32} (hn : n ≤ 5) (hc : c ≤ 24) (h0 : ¬ (fd_may n v1 ∧ fd_may n v2 ∧ fd_may n v3 ∧ fd_may n v4) → post (-1) (nI n, nI c, nI l, w, aL, aR, aC, aT, aD, aE, aW, aS, aP))
    (h1 : fd_may n v1 ∧ fd_may n v2 ∧ fd_may n v3 ∧ fd_may n v4 → (c = 24 → post (-2) (nI n, nI c, nI l, w, aL, aR, aC, aT, aD, aE, aW, aS, aP)) ∧ (c < 24 → post (nI (c + 1)) (nI n, nI (c + 1), nI l, w, aL, aR, aC, upd (upd (upd (upd aT (4 * c) v1) (4 * c + 1) v2) (4 * c + 2) v3) (4 * c + 3) v4, aD, aE, aW, aS, aP))) : wpY_clause post (nI n, nI c, nI l, w, aL, aR, aC, aT, aD, aE, aW, aS, aP) v1 v2 v3 v4 := by
  unfold wpY_clause
  dsimp only
  refine yc_may hn v1 (fun a => br_f (by decide) (yc_may hn v2 (fun b => br_f (by decide) (yc_may hn v3 (fun d => br_f (by decide) (yc_may hn v4 (fun e => br_f (by decide) ?_) (fun z => br_t rfl (h0 (fun y => z y.2.2.2))))) (fun z => br_t rfl (h0 (fun y => z y.2.2.1))))) (fun z => br_t rfl (h0 (fun y => z y.2.1))))) (fun z => br_t rfl (h0 (fun y => z y.1)))
  obtain ⟨g1, g2⟩ := h1 ⟨a, b, d, e⟩
  refine pk_eq c 24 g1 (fun z => ?_)
  have e0 : (4 : Int32) * nI c = nI (4 * c) := pk_mul 4 c
  have e1 : nI (4 * c) + 1 = nI (4 * c + 1) := nI_add _ 1
  have e2 : nI (4 * c) + 2 = nI (4 * c + 2) := nI_add _ 2
  have e3 : nI (4 * c) + 3 = nI (4 * c + 3) := nI_add _ 3
  rw [e0, e1, e2, e3]
  refine ⟨vp_in_nI (by omega) (by omega), nm_r (congrArg (fun q => upd aT q v1) (nI_clamp (by omega))) ⟨vp_in_nI (by omega) (by omega), nm_r (congrArg (fun q => upd (upd aT (4 * c) v1) q v2) (nI_clamp (by omega))) ⟨vp_in_nI (by omega) (by omega), nm_r (congrArg (fun q => upd (upd (upd aT (4 * c) v1) (4 * c + 1) v2) q v3) (nI_clamp (by omega))) ⟨vp_in_nI (by omega) (by omega), nm_r (congrArg (fun q => upd (upd (upd (upd aT (4 * c) v1) (4 * c + 1) v2) (4 * c + 2) v3) q v4) (nI_clamp (by omega))) (nm_r (nI_1 c) (g2 (by omega)))⟩⟩⟩⟩
theorem i_vc_clause {k : Nat} {u : SX} {v : SY} (I : i_Rel k u v) (hk : k + 5 ≤ 2560) (v1 : Int32) (v2 : Int32) (v3 : Int32) (v4 : Int32) : wpX_clause (fun r u' => wpY_clause (fun r' v' => r' = r ∧ i_Rel (k + 5) u' v') v v1 v2 v3 v4) u v1 v2 v3 v4 := by
  obtain ⟨n, c, l, H, w, aL, aR, aC, aY, aN, aD, aE, aP, aQ, aB, aT, aW, aS, rfl, rfl, hI⟩ := I
  have hI' := hI
  obtain ⟨hD, ⟨h1, h2, h3⟩, hd, he, hpr, hcr, hlt, hT⟩ := hI'
  have hn := hD.1
  have hc : c ≤ 24 := by omega
  unfold wpX_clause
  dsimp only
  refine xc_may hn v1 (fun a => br_f (by decide) (xc_may hn v2 (fun b => br_f (by decide) (xc_may hn v3 (fun d => br_f (by decide) (xc_may hn v4 (fun e => br_f (by decide) ?_) (fun z => br_t rfl (yc_clause hn hc (fun _ => ⟨rfl, fd_mkR hI⟩) (fun y => (z y.2.2.2).elim))))) (fun z => br_t rfl (yc_clause hn hc (fun _ => ⟨rfl, fd_mkR hI⟩) (fun y => (z y.2.2.1).elim))))) (fun z => br_t rfl (yc_clause hn hc (fun _ => ⟨rfl, fd_mkR hI⟩) (fun y => (z y.2.1).elim))))) (fun z => br_t rfl (yc_clause hn hc (fun _ => ⟨rfl, fd_mkR hI⟩) (fun y => (z y.1).elim)))
  have t1 := fd_mayL hn a
  have t2 := fd_mayL hn b
  have t3 := fd_mayL hn d
  have t4 := fd_mayL hn e
  refine pk_eq c 24 (fun z => yc_clause hn hc (fun y => (y ⟨a, b, d, e⟩).elim) (fun _ => ⟨fun _ => ⟨rfl, fd_mkR hI⟩, fun y => by omega⟩)) (fun z => ?_)
  have ec : (nI c).toNatClampNeg = c := nI_clamp (by omega)
  have hin : vp_in (nI c) 24 := vp_in_nI (by omega) (by omega)
  refine xc_yes t1 (xc_yes t2 (xc_yes t3 (xc_yes t4 ⟨hin, nm_r (congrArg (fun q => upd aY q (fd_yb v1 ||| fd_yb v2 ||| fd_yb v3 ||| fd_yb v4)) ec) ?_⟩)))
  refine xc_no t1 (xc_no t2 (xc_no t3 (xc_no t4 ⟨hin, nm_r (congrArg (fun q => upd aN q (fd_nb v1 ||| fd_nb v2 ||| fd_nb v3 ||| fd_nb v4)) ec) (nm_r (nI_1 c) ?_)⟩)))
  refine yc_clause hn hc (fun y => (y ⟨a, b, d, e⟩).elim) (fun _ => ⟨fun y => (z y).elim, fun _ => ⟨rfl, ?_⟩⟩)
  obtain ⟨H', hH1, hH2, hH3, hH4⟩ : ∃ H', H ≤ H' ∧ c + 1 ≤ H' ∧ H' ≤ 24 ∧ (H' ≤ H ∨ H' = c + 1) := by
    by_cases y : H ≤ c
    · exact ⟨c + 1, by omega, by omega, by omega, Or.inr rfl⟩
    · exact ⟨H, by omega, by omega, by omega, Or.inl (by omega)⟩
  refine fd_mkR (H := H') ⟨hD, ⟨hH2, hH3, h3⟩, hd, fun q => ?_, hpr, fun q hq => fd_crU t1 t2 t3 t4 q (fun ne => hcr q (by omega)), fun q hq => ?_, hT⟩
  · obtain ⟨m, hm, em⟩ := he q
    exact ⟨m, by omega, em⟩
  · by_cases y3 : q = 4 * c + 3
    · rw [y3, pk_us]
      exact t4
    · rw [pk_un y3]
      by_cases y2 : q = 4 * c + 2
      · rw [y2, pk_us]
        exact t3
      · rw [pk_un y2]
        by_cases y1 : q = 4 * c + 1
        · rw [y1, pk_us]
          exact t2
        · rw [pk_un y1]
          by_cases y0 : q = 4 * c
          · rw [y0, pk_us]
            exact t1
          · rw [pk_un y0]
            exact hlt q (by omega)
end
