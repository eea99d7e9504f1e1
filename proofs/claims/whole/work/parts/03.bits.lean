/-! bits of patterns; literals -/
theorem fd_bn (p : Nat) {i : Nat} (hi : i < 32) : bt (nI p) i = p.testBit i := by
  unfold bt
  show (BitVec.ofNat 32 p).getLsbD i = _
  rw [BitVec.getLsbD_ofNat, decide_eq_true hi, Bool.true_and]
theorem fd_b2 (k : Nat) {i : Nat} (hi : i < 32) : bt (nI (2 ^ k)) i = decide (k = i) := by
  rw [fd_bn _ hi, Nat.testBit_two_pow]
theorem fd_b1 {i : Nat} (hi : i < 32) : bt 1 i = decide (0 = i) := fd_b2 0 hi
theorem fd_not (x : Int32) {i : Nat} (hi : i < 32) : bt (x ^^^ (-1)) i = !(bt x i) := by
  rw [b_xor, b_m1 i hi, Bool.xor_true]
theorem fd_a0 (x : Int32) {k : Nat} (hk : k < 32) : x &&& nI (2 ^ k) = 0 ↔ bt x k = false := by
  constructor
  · intro h
    have e := congrArg (fun z => bt z k) h
    simp only [b_and, fd_b2 k hk, b_0, decide_true, Bool.and_true] at e
    exact e
  · intro h
    apply b_ext
    intro i hi
    rw [b_and, fd_b2 k hi, b_0]
    by_cases e : k = i
    · subst e
      rw [h, Bool.false_and]
    · rw [decide_eq_false e, Bool.and_false]
theorem fd_a1 (x : Int32) {k : Nat} (hk : k < 32) : x &&& nI (2 ^ k) = nI (2 ^ k) ↔ bt x k = true := by
  constructor
  · intro h
    have e := congrArg (fun z => bt z k) h
    simp only [b_and, fd_b2 k hk, decide_true, Bool.and_true] at e
    exact e
  · intro h
    apply b_ext
    intro i hi
    rw [b_and, fd_b2 k hi]
    by_cases e : k = i
    · subst e
      rw [h, Bool.true_and]
    · rw [decide_eq_false e, Bool.and_false]
theorem fd_00 (x : Int32) : x &&& 0 = 0 := by
  apply b_ext
  intro i hi
  rw [b_and, b_0, Bool.and_false]
theorem fd_or0 (x a b : Int32) : x &&& (a ||| b) = 0 ↔ x &&& a = 0 ∧ x &&& b = 0 := by
  constructor
  · intro h
    constructor <;> (
      apply b_ext
      intro i hi
      have e := congrArg (fun z => bt z i) h
      simp only [b_and, b_or, b_0] at e ⊢
      revert e
      cases bt x i <;> cases bt a i <;> cases bt b i <;> decide)
  · rintro ⟨h, h2⟩
    apply b_ext
    intro i hi
    have e := congrArg (fun z => bt z i) h
    have e2 := congrArg (fun z => bt z i) h2
    simp only [b_and, b_or, b_0] at e e2 ⊢
    revert e e2
    cases bt x i <;> cases bt a i <;> cases bt b i <;> decide
theorem fd_or1 (x a b : Int32) : x &&& (a ||| b) = (a ||| b) ↔ x &&& a = a ∧ x &&& b = b := by
  constructor
  · intro h
    constructor <;> (
      apply b_ext
      intro i hi
      have e := congrArg (fun z => bt z i) h
      simp only [b_and, b_or] at e ⊢
      revert e
      cases bt x i <;> cases bt a i <;> cases bt b i <;> decide)
  · rintro ⟨h, h2⟩
    apply b_ext
    intro i hi
    have e := congrArg (fun z => bt z i) h
    have e2 := congrArg (fun z => bt z i) h2
    simp only [b_and, b_or] at e e2 ⊢
    revert e e2
    cases bt x i <;> cases bt a i <;> cases bt b i <;> decide
/-- one bit of x, as the programs take it -/
theorem fd_bit (x : Int32) {k : Nat} (hk : k < 32) : (x >>> (nI k &&& 31)) &&& 1 = if bt x k = true then 1 else 0 := by
  apply b_ext
  intro i hi
  rw [b_and, b_sshr k hk x hi, fd_b1 hi]
  by_cases e : 0 = i
  · subst e
    rw [Nat.add_zero, if_pos hk, decide_eq_true rfl, Bool.and_true]
    by_cases z : bt x k = true
    · rw [if_pos z, z, fd_b1 hi, decide_eq_true rfl]
    · rw [if_neg z, b_0]
      exact Bool.eq_false_iff.mpr z
  · rw [decide_eq_false e, Bool.and_false]
    split
    · rw [fd_b1 hi, decide_eq_false e]
    · rw [b_0]
theorem fd_bitN (p : Nat) {k : Nat} (hk : k < 32) : (nI p >>> (nI k &&& 31)) &&& 1 = if p.testBit k = true then 1 else 0 := by
  rw [fd_bit _ hk, fd_bn _ hk]
theorem fd_1l {k : Nat} (hk : k < 31) : (1 : Int32) <<< (nI k &&& 31) = nI (2 ^ k) := by
  have h : 1 * 2 ^ k < 2 ^ 32 := by
    rw [Nat.one_mul]
    exact Nat.pow_lt_pow_right (by decide) (by omega)
  have := pk_shlN (n := 1) (nI k &&& 31) k (s_l k (by omega)) h
  rw [Nat.one_mul] at this
  exact this
theorem fd_nIm1 {a : Nat} (ha : a < 2 ^ 31) : ¬ nI a = -1 := by
  intro h
  have := congrArg Int32.toInt h
  rw [nI_toInt ha, show (-1 : Int32).toInt = -1 from by decide] at this
  omega
/-- literals: l is -1 (none), or 2a or 2a+1 of an atom a < 10 -/
def fd_lt (l : Int32) : Prop := l = -1 ∨ ∃ a : Nat, a < 20 ∧ l = nI a
def fd_lh (p : Nat) (l : Int32) : Bool := if l = -1 then false else (p.testBit (l.toNatClampNeg / 2) == decide (l.toNatClampNeg % 2 = 0))
def fd_yb (l : Int32) : Int32 := if l = -1 then 0 else if l.toNatClampNeg % 2 = 0 then nI (2 ^ (l.toNatClampNeg / 2)) else 0
def fd_nb (l : Int32) : Int32 := if l = -1 then 0 else if l.toNatClampNeg % 2 = 0 then 0 else nI (2 ^ (l.toNatClampNeg / 2))
theorem fd_lhN (p : Nat) {a : Nat} (ha : a < 20) : fd_lh p (nI a) = (p.testBit (a / 2) == decide (a % 2 = 0)) := by
  unfold fd_lh
  rw [if_neg (fd_nIm1 (by omega)), nI_clamp (by omega)]
theorem fd_ybN {a : Nat} (ha : a < 20) : fd_yb (nI a) = if a % 2 = 0 then nI (2 ^ (a / 2)) else 0 := by
  unfold fd_yb
  rw [if_neg (fd_nIm1 (by omega)), nI_clamp (by omega)]
theorem fd_nbN {a : Nat} (ha : a < 20) : fd_nb (nI a) = if a % 2 = 0 then 0 else nI (2 ^ (a / 2)) := by
  unfold fd_nb
  rw [if_neg (fd_nIm1 (by omega)), nI_clamp (by omega)]
theorem fd_lit1 (p : Nat) {l : Int32} (hl : fd_lt l) : (nI p &&& fd_yb l = 0 ∧ (nI p ^^^ (-1)) &&& fd_nb l = 0) ↔ fd_lh p l = false := by
  rcases hl with rfl | ⟨a, ha, rfl⟩
  · simp [fd_yb, fd_nb, fd_lh, fd_00]
  · rw [fd_ybN ha, fd_nbN ha, fd_lhN p ha]
    by_cases e : a % 2 = 0
    · rw [if_pos e, if_pos e, decide_eq_true e, fd_a0 _ (by omega), fd_bn _ (by omega)]
      cases p.testBit (a / 2) <;> simp [fd_00]
    · rw [if_neg e, if_neg e, decide_eq_false e, fd_a0 _ (by omega), fd_not _ (by omega), fd_bn _ (by omega)]
      cases p.testBit (a / 2) <;> simp [fd_00]
theorem fd_lit2 (p : Nat) {l : Int32} (hl : fd_lt l) : (nI p &&& fd_yb l = fd_yb l ∧ nI p &&& fd_nb l = 0) ↔ (l = -1 ∨ fd_lh p l = true) := by
  rcases hl with rfl | ⟨a, ha, rfl⟩
  · simp [fd_yb, fd_nb, fd_00]
  · rw [fd_ybN ha, fd_nbN ha, fd_lhN p ha]
    have n1 := fd_nIm1 (a := a) (by omega)
    by_cases e : a % 2 = 0
    · rw [if_pos e, if_pos e, decide_eq_true e, fd_a1 _ (by omega), fd_bn _ (by omega)]
      cases p.testBit (a / 2) <;> simp [fd_00, n1]
    · rw [if_neg e, if_neg e, decide_eq_false e, fd_a0 _ (by omega), fd_bn _ (by omega)]
      cases p.testBit (a / 2) <;> simp [fd_00, n1]
theorem fd_lit3 (p : Nat) {a : Nat} (ha : a < 20) : (nI p &&& fd_nb (nI a) = fd_nb (nI a) ∧ nI p &&& fd_yb (nI a) = 0) ↔ fd_lh p (nI a) = false := by
  rw [fd_ybN ha, fd_nbN ha, fd_lhN p ha]
  by_cases e : a % 2 = 0
  · rw [if_pos e, if_pos e, decide_eq_true e, fd_a0 _ (by omega), fd_bn _ (by omega)]
    cases p.testBit (a / 2) <;> simp [fd_00]
  · rw [if_neg e, if_neg e, decide_eq_false e, fd_a1 _ (by omega), fd_bn _ (by omega)]
    cases p.testBit (a / 2) <;> simp [fd_00]
theorem fd_half {a : Nat} (ha : a < 20) : nI a / 2 = nI (a / 2) := pk_div (d := 2) (by omega) (by omega) (by omega)
theorem fd_odd {a : Nat} (ha : a < 20) : nI a - nI a / 2 * 2 = nI (a % 2) := pk_rem (d := 2) (by omega) (by omega) (by omega)
theorem fd_yholds (p : Nat) {a : Nat} (ha : a < 20) : ((nI p >>> ((nI a / 2) &&& 31)) &&& 1) = 1 - (nI a - nI a / 2 * 2) ↔ fd_lh p (nI a) = true := by
  rw [fd_odd ha, fd_half ha, fd_bitN p (by omega), fd_lhN p ha]
  rcases Nat.mod_two_eq_zero_or_one a with e | e
  · rw [e]
    cases p.testBit (a / 2) <;> decide
  · rw [e]
    cases p.testBit (a / 2) <;> decide
/-- the lowest bit in which two patterns differ -/
theorem fd_low : ∀ u, u < 1024 → u ≠ 0 → ∃ k, k < 10 ∧ nI u &&& -(nI u) = nI (2 ^ k) ∧ u.testBit k = true := by decide +kernel
theorem fd_bef {p q : Nat} (hp : p < 1024) (hq : q < 1024) (h : p ≠ q) : nI p &&& ((nI p ^^^ nI q) &&& -(nI p ^^^ nI q)) = 0 ↔ ¬ nI q &&& ((nI p ^^^ nI q) &&& -(nI p ^^^ nI q)) = 0 := by
  have hu : p ^^^ q < 1024 := Nat.xor_lt_two_pow (n := 10) hp hq
  have h0 : p ^^^ q ≠ 0 := fun z => h (Nat.eq_of_testBit_eq (fun i => by
    have e := congrArg (fun w => Nat.testBit w i) z
    simp only [Nat.testBit_xor, Nat.zero_testBit] at e
    revert e
    cases p.testBit i <;> cases q.testBit i <;> decide))
  obtain ⟨k, hk, e, ht⟩ := fd_low (p ^^^ q) hu h0
  rw [nx_xor, e, fd_a0 _ (by omega), fd_a0 _ (by omega), fd_bn _ (by omega), fd_bn _ (by omega)]
  rw [Nat.testBit_xor] at ht
  revert ht
  cases p.testBit k <;> cases q.testBit k <;> decide
