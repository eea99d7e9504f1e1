/-! the matrix of bounds over five variables: P i j is the least bound known of x_i - x_j, 1000000000 where there is none -/
def fd_put (P : Nat → Nat → Int) (i j : Nat) (c : Int) : Nat → Nat → Int := fun a b => if a = i ∧ b = j ∧ c < P i j then c else P a b
def fd_P0 : Nat → Nat → Int := fun a b => if a = b then 0 else 1000000000
def fd_ini (L R : Nat → Nat) (C : Nat → Int) (ch : Nat) : Nat → Nat → Nat → Int
  | 0 => fd_P0
  | d + 1 => if ch.testBit d = true then fd_put (fd_ini L R C ch d) (L d) (R d) (C d) else fd_put (fd_ini L R C ch d) (R d) (L d) (- C d - 1)
def fd_via (P : Nat → Nat → Int) (m : Nat) : Nat → Nat → Int := fun i j => if P i m ≠ 1000000000 ∧ P m j ≠ 1000000000 ∧ P i m + P m j < P i j then P i m + P m j else P i j
def fd_vo (m : Nat) (o : Option (Nat → Nat → Int)) : Option (Nat → Nat → Int) := match o with
  | none => none
  | some P => if P m m < 0 then none else some (fd_via P m)
def fd_vn (o : Option (Nat → Nat → Int)) : Nat → Option (Nat → Nat → Int)
  | 0 => o
  | m + 1 => fd_vo m (fd_vn o m)
def fd_fin (o : Option (Nat → Nat → Int)) : Option (Nat → Nat → Int) := match o with
  | none => none
  | some P => if P 0 0 < 0 ∨ P 1 1 < 0 ∨ P 2 2 < 0 ∨ P 3 3 < 0 ∨ P 4 4 < 0 then none else some P
def fd_res (L R : Nat → Nat) (C : Nat → Int) (n ch : Nat) : Option (Nat → Nat → Int) := fd_fin (fd_vn (some (fd_ini L R C ch n)) 5)
/-- a cell v that stands for the bound x, with N for no bound -/
def fd_gw (N x : Int) (v : Int32) : Prop := (x = 1000000000 ∧ v.toInt = N) ∨ (x ≠ 1000000000 ∧ v.toInt = x)
def fd_rg (B : Int) (P : Nat → Nat → Int) : Prop := ∀ i j, i < 5 → j < 5 → P i j = 1000000000 ∨ (-B ≤ P i j ∧ P i j ≤ B)
def fd_bad (g : Nat → Nat → Int32) : Prop := ∃ i, i < 5 ∧ (g i i).toInt < 0
def fd_pc (N B : Int) (o : Option (Nat → Nat → Int)) (g : Nat → Nat → Int32) : Prop := match o with
  | none => fd_bad g
  | some P => fd_rg B P ∧ ∀ i j, i < 5 → j < 5 → fd_gw N (P i j) (g i j)
def fd_in (N B : Int) (o : Option (Nat → Nat → Int)) (m : Nat) (D : Nat → Nat → Prop) (g : Nat → Nat → Int32) : Prop := match o with
  | none => fd_bad g
  | some P => (P m m < 0 ∧ fd_bad g) ∨ (0 ≤ P m m ∧ fd_rg B P ∧ ∀ i j, i < 5 → j < 5 → (D i j → fd_gw N (fd_via P m i j) (g i j)) ∧ (¬ D i j → fd_gw N (P i j) (g i j)))
theorem fd_add {a c : Int32} (h1 : -100000000 ≤ a.toInt) (h2 : a.toInt ≤ 100000000) (h3 : -100000000 ≤ c.toInt) (h4 : c.toInt ≤ 100000000) : (a + c).toInt = a.toInt + c.toInt := by
  rw [Int32.toInt_add]
  exact Int.bmod_eq_of_le (by omega) (by omega)
theorem fd_viaL {P : Nat → Nat → Int} {m : Nat} (h : 0 ≤ P m m) (i : Nat) : fd_via P m i m = P i m := by
  unfold fd_via
  rw [if_neg (by omega)]
theorem fd_viaR {P : Nat → Nat → Int} {m : Nat} (h : 0 ≤ P m m) (j : Nat) : fd_via P m m j = P m j := by
  unfold fd_via
  rw [if_neg (by omega)]
theorem fd_viaG {B : Int} {P : Nat → Nat → Int} {m : Nat} (hm : m < 5) (hB : 0 ≤ B) (h : fd_rg B P) : fd_rg (2 * B) (fd_via P m) := by
  intro i j hi hj
  have h1 := h i j hi hj
  have h2 := h i m hi hm
  have h3 := h m j hm hj
  unfold fd_via
  split <;> omega
theorem fd_begin {N B : Int} {o : Option (Nat → Nat → Int)} {g : Nat → Nat → Int32} {m : Nat} (hm : m < 5) (h : fd_pc N B o g) : fd_in N B o m (fun _ _ => False) g := by
  cases o with
  | none => exact h
  | some P =>
    by_cases z : P m m < 0
    · refine Or.inl ⟨z, m, hm, ?_⟩
      have := h.2 m m hm hm
      unfold fd_gw at this
      omega
    · exact Or.inr ⟨by omega, h.1, fun i j hi hj => ⟨fun f => f.elim, fun _ => h.2 i j hi hj⟩⟩
theorem fd_end {N B : Int} {o : Option (Nat → Nat → Int)} {g : Nat → Nat → Int32} {m : Nat} {D : Nat → Nat → Prop} (hm : m < 5) (hB : 0 ≤ B) (hD : ∀ i j, i < 5 → j < 5 → D i j) (h : fd_in N B o m D g) : fd_pc N (2 * B) (fd_vo m o) g := by
  cases o with
  | none => exact h
  | some P =>
    rcases h with ⟨z, hb⟩ | ⟨z, hr, hg⟩
    · show fd_pc N (2 * B) (if P m m < 0 then none else some (fd_via P m)) g
      rw [if_pos z]
      exact hb
    · show fd_pc N (2 * B) (if P m m < 0 then none else some (fd_via P m)) g
      rw [if_neg (by omega)]
      exact ⟨fd_viaG hm hB hr, fun i j hi hj => (hg i j hi hj).1 (hD i j hi hj)⟩
theorem fd_badLe {g g' : Nat → Nat → Int32} (i j : Nat) (hi : i < 5) (hj : j < 5) (hg : ∀ a b, a < 5 → b < 5 → ¬ (a = i ∧ b = j) → g' a b = g a b) (hle : (g' i j).toInt ≤ (g i j).toInt) (h : fd_bad g) : fd_bad g' := by
  obtain ⟨k, hk, hb⟩ := h
  refine ⟨k, hk, ?_⟩
  by_cases e : k = i ∧ k = j
  · obtain ⟨rfl, e2⟩ := e
    subst e2
    omega
  · rw [hg k k hk hk e]
    exact hb
theorem fd_step {N B : Int} (hN : 1000000 ≤ N) (hN2 : N ≤ 1000000000) (hB0 : 0 ≤ B) (hB : B ≤ 16016) {o : Option (Nat → Nat → Int)} {m : Nat} (hm : m < 5) {D : Nat → Nat → Prop} {g g' : Nat → Nat → Int32} (h : fd_in N B o m D g) (i j : Nat) (hi : i < 5) (hj : j < 5)
    (hg : ∀ a b, a < 5 → b < 5 → ¬ (a = i ∧ b = j) → g' a b = g a b) (hle : (g' i j).toInt ≤ (g i j).toInt)
    (hd : ((g i m).toInt = N ∨ (g i m).toInt ≤ 32032) → ((g m j).toInt = N ∨ (g m j).toInt ≤ 32032) →
      (((g i m).toInt ≠ N ∧ (g m j).toInt ≠ N ∧ (g i m + g m j).toInt < (g i j).toInt) → g' i j = g i m + g m j) ∧
      (¬ ((g i m).toInt ≠ N ∧ (g m j).toInt ≠ N ∧ (g i m + g m j).toInt < (g i j).toInt) → g' i j = g i j)) :
    fd_in N B o m (fun a b => D a b ∨ (a = i ∧ b = j)) g' := by
  cases o with
  | none => exact fd_badLe i j hi hj hg hle h
  | some P =>
    rcases h with ⟨z, hb⟩ | ⟨z, hr, hv⟩
    · exact Or.inl ⟨z, fd_badLe i j hi hj hg hle hb⟩
    · refine Or.inr ⟨z, hr, ?_⟩
      have eA : fd_gw N (P i m) (g i m) := by
        have h1 := hv i m hi hm
        rw [fd_viaL z] at h1
        by_cases q : D i m
        · exact h1.1 q
        · exact h1.2 q
      have eC : fd_gw N (P m j) (g m j) := by
        have h1 := hv m j hm hj
        rw [fd_viaR z] at h1
        by_cases q : D m j
        · exact h1.1 q
        · exact h1.2 q
      have rA := hr i m hi hm
      have rC := hr m j hm hj
      have rI := hr i j hi hj
      have key : fd_gw N (fd_via P m i j) (g' i j) := by
        have hvi := hv i j hi hj
        by_cases q : D i j
        · -- done before: a second time changes nothing
          have e0 := hvi.1 q
          unfold fd_gw at eA eC e0
          have hd' := hd (by omega) (by omega)
          have hs : (g i m).toInt ≠ N → (g m j).toInt ≠ N → (g i m + g m j).toInt = (g i m).toInt + (g m j).toInt := fun a b => fd_add (by omega) (by omega) (by omega) (by omega)
          unfold fd_gw
          unfold fd_via at e0 ⊢
          have hn : ¬ ((g i m).toInt ≠ N ∧ (g m j).toInt ≠ N ∧ (g i m + g m j).toInt < (g i j).toInt) := by
            rintro ⟨a, b, c⟩
            rw [hs a b] at c
            split at e0 <;> omega
          rw [hd'.2 hn]
          exact e0
        · have e0 := hvi.2 q
          unfold fd_gw at eA eC e0
          have hd' := hd (by omega) (by omega)
          have hs : (g i m).toInt ≠ N → (g m j).toInt ≠ N → (g i m + g m j).toInt = (g i m).toInt + (g m j).toInt := fun a b => fd_add (by omega) (by omega) (by omega) (by omega)
          unfold fd_gw fd_via
          by_cases t : (g i m).toInt ≠ N ∧ (g m j).toInt ≠ N ∧ (g i m + g m j).toInt < (g i j).toInt
          · have t' := t
            rw [hs t.1 t.2.1] at t'
            rw [hd'.1 t, if_pos (by omega), hs t.1 t.2.1]
            omega
          · rw [hd'.2 t, if_neg ?_]
            · exact e0
            · rintro ⟨a, b, c⟩
              apply t
              have a' : (g i m).toInt ≠ N := by omega
              have b' : (g m j).toInt ≠ N := by omega
              refine ⟨a', b', ?_⟩
              rw [hs a' b']
              omega
      intro a b ha hb
      by_cases e : a = i ∧ b = j
      · obtain ⟨rfl, rfl⟩ := e
        exact ⟨fun _ => key, fun q => (q (Or.inr ⟨rfl, rfl⟩)).elim⟩
      · rw [hg a b ha hb e]
        exact ⟨fun q => (hv a b ha hb).1 (q.resolve_right e), fun q => (hv a b ha hb).2 (fun q' => q (Or.inl q'))⟩
theorem fd_inCong {N B : Int} {o : Option (Nat → Nat → Int)} {m : Nat} {D D' : Nat → Nat → Prop} {g : Nat → Nat → Int32} (h : fd_in N B o m D g) (hD : ∀ a b, a < 5 → b < 5 → (D a b ↔ D' a b)) : fd_in N B o m D' g := by
  cases o with
  | none => exact h
  | some P =>
    rcases h with hb | ⟨z, hr, hv⟩
    · exact Or.inl hb
    · exact Or.inr ⟨z, hr, fun i j hi hj => ⟨fun q => (hv i j hi hj).1 ((hD i j hi hj).2 q), fun q => (hv i j hi hj).2 (fun q' => q ((hD i j hi hj).1 q'))⟩⟩
/-- the beginning: the table of no bounds, then one bound a difference -/
theorem fd_pc0 {N B : Int} (hB : 0 ≤ B) {g : Nat → Nat → Int32} (h : ∀ i j, i < 5 → j < 5 → (g i j).toInt = if i = j then 0 else N) : fd_pc N B (some fd_P0) g := by
  refine ⟨fun i j hi hj => ?_, fun i j hi hj => ?_⟩
  · unfold fd_P0
    split <;> omega
  · have := h i j hi hj
    unfold fd_gw fd_P0
    split <;> split at this <;> omega
theorem fd_pcPut {N : Int} (hN : 1000000 ≤ N) {P : Nat → Nat → Int} {g g' : Nat → Nat → Int32} (h : fd_pc N 1001 (some P) g) (i j : Nat) (hi : i < 5) (hj : j < 5) (c : Int32) (h1 : -1001 ≤ c.toInt) (h2 : c.toInt ≤ 1001)
    (hg : ∀ a b, a < 5 → b < 5 → ¬ (a = i ∧ b = j) → g' a b = g a b) (hp : c.toInt < (g i j).toInt → g' i j = c) (hn : ¬ c.toInt < (g i j).toInt → g' i j = g i j) : fd_pc N 1001 (some (fd_put P i j c.toInt)) g' := by
  obtain ⟨hr, hv⟩ := h
  refine ⟨fun a b ha hb => ?_, fun a b ha hb => ?_⟩
  · have := hr a b ha hb
    unfold fd_put
    split <;> omega
  · by_cases e : a = i ∧ b = j
    · obtain ⟨rfl, rfl⟩ := e
      have e0 := hv a b ha hb
      have e1 := hr a b ha hb
      unfold fd_gw at e0
      unfold fd_gw fd_put
      by_cases t : c.toInt < (g a b).toInt
      · rw [hp t, if_pos ⟨rfl, rfl, by omega⟩]
        omega
      · rw [hn t, if_neg (fun q => by have := q.2.2; omega)]
        exact e0
    · have ep : fd_put P i j c.toInt a b = P a b := if_neg (fun q => e ⟨q.1, q.2.1⟩)
      rw [hg a b ha hb e, ep]
      exact hv a b ha hb
/-- the end: is a variable below itself -/
theorem fd_finB {N B : Int} {o : Option (Nat → Nat → Int)} {g : Nat → Nat → Int32} (hN : 0 ≤ N) (h : fd_pc N B o g) : (fd_bad g ↔ fd_fin o = none) ∧ ∀ P, fd_fin o = some P → ∀ i j, i < 5 → j < 5 → fd_gw N (P i j) (g i j) := by
  cases o with
  | none => exact ⟨⟨fun _ => rfl, fun _ => h⟩, fun P e => nomatch e⟩
  | some P =>
    obtain ⟨hr, hv⟩ := h
    have k : fd_bad g ↔ (P 0 0 < 0 ∨ P 1 1 < 0 ∨ P 2 2 < 0 ∨ P 3 3 < 0 ∨ P 4 4 < 0) := by
      have e : ∀ i, i < 5 → ((g i i).toInt < 0 ↔ P i i < 0) := by
        intro i hi
        have := hv i i hi hi
        unfold fd_gw at this
        omega
      constructor
      · rintro ⟨i, hi, hb⟩
        have hb' := (e i hi).1 hb
        have : i = 0 ∨ i = 1 ∨ i = 2 ∨ i = 3 ∨ i = 4 := by omega
        rcases this with rfl | rfl | rfl | rfl | rfl <;> simp [hb']
      · rintro (q | q | q | q | q)
        · exact ⟨0, by omega, (e 0 (by omega)).2 q⟩
        · exact ⟨1, by omega, (e 1 (by omega)).2 q⟩
        · exact ⟨2, by omega, (e 2 (by omega)).2 q⟩
        · exact ⟨3, by omega, (e 3 (by omega)).2 q⟩
        · exact ⟨4, by omega, (e 4 (by omega)).2 q⟩
    unfold fd_fin
    dsimp only
    by_cases z : P 0 0 < 0 ∨ P 1 1 < 0 ∨ P 2 2 < 0 ∨ P 3 3 < 0 ∨ P 4 4 < 0
    · rw [if_pos z]
      exact ⟨⟨fun _ => rfl, fun _ => k.2 z⟩, fun P e => nomatch e⟩
    · rw [if_neg z]
      exact ⟨⟨fun b => (z (k.1 b)).elim, fun e => nomatch e⟩, fun Q e => by cases e; exact hv⟩
