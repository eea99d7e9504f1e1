/-! settled and greatest: what each side's loop keeps, and that it fixes the answer -/
def fd_cb (q : Nat → Bool) : Nat → Nat
  | 0 => 0
  | k + 1 => fd_cb q k + (if q k = true then 1 else 0)
theorem fd_cbB (q : Nat → Bool) : ∀ k, fd_cb q k ≤ k
  | 0 => Nat.le_refl _
  | k + 1 => by
    have := fd_cbB q k
    simp only [fd_cb]
    split <;> omega
theorem fd_cbC {q q' : Nat → Bool} : ∀ k, (∀ j, j < k → q j = q' j) → fd_cb q k = fd_cb q' k
  | 0, _ => rfl
  | k + 1, h => by
    simp only [fd_cb]
    rw [fd_cbC k (fun j hj => h j (by omega)), h k (by omega)]
theorem fd_cbX {q : Nat → Bool} (A : Nat) : ∀ d, (∀ j, A ≤ j → j < A + d → q j = false) → fd_cb q (A + d) = fd_cb q A
  | 0, _ => rfl
  | d + 1, h => by
    show fd_cb q (A + d) + (if q (A + d) = true then 1 else 0) = _
    rw [fd_cbX A d (fun j h1 h2 => h j h1 (by omega)), h (A + d) (by omega) (by omega)]
    simp
def fd_sX (ps : Nat → Bool) (A q : Nat) (ay an f : Int32) : Prop :=
  (∀ k, k < 32 → (bt ay k = true ↔ k < A ∧ ∀ p, p < q → ps p = true → p.testBit k = true)) ∧
  (∀ k, k < 32 → (bt an k = true ↔ k < A ∧ ∀ p, p < q → ps p = true → p.testBit k = false)) ∧
  ((f = 1 ∧ ∃ p, p < q ∧ ps p = true) ∨ (f = 0 ∧ ∀ p, p < q → ps p = false))
def fd_sY (ps : Nat → Bool) (q : Nat) (y n : Int32) : Prop :=
  (∀ k, k < 32 → (bt y k = true ↔ ∃ p, p < q ∧ ps p = true ∧ p.testBit k = true)) ∧
  (∀ k, k < 32 → (bt n k = true ↔ ∃ p, p < q ∧ ps p = true ∧ p.testBit k = false))
theorem fd_sX0 {ps : Nat → Bool} {A : Nat} : fd_sX ps A 0 (nI (2 ^ A - 1)) (nI (2 ^ A - 1)) 0 := by
  have h : ∀ k, k < 32 → (bt (nI (2 ^ A - 1)) k = true ↔ k < A) := by
    intro k hk
    rw [fd_bn _ hk, Nat.testBit_two_pow_sub_one, decide_eq_true_eq]
  refine ⟨fun k hk => ?_, fun k hk => ?_, Or.inr ⟨rfl, fun p hp => by omega⟩⟩
  · rw [h k hk]
    exact ⟨fun z => ⟨z, fun p hp => by omega⟩, fun z => z.1⟩
  · rw [h k hk]
    exact ⟨fun z => ⟨z, fun p hp => by omega⟩, fun z => z.1⟩
theorem fd_sXt {ps : Nat → Bool} {A q : Nat} {ay an f : Int32} (h : fd_sX ps A q ay an f) (hq : ps q = true) : fd_sX ps A (q + 1) (ay &&& nI q) (an &&& (nI q ^^^ (-1))) 1 := by
  obtain ⟨h1, h2, h3⟩ := h
  refine ⟨fun k hk => ?_, fun k hk => ?_, Or.inl ⟨rfl, q, by omega, hq⟩⟩
  · rw [b_and, Bool.and_eq_true, h1 k hk, fd_bn _ hk]
    constructor
    · rintro ⟨⟨a, b⟩, c⟩
      refine ⟨a, fun p hp hs => ?_⟩
      by_cases e : p = q
      · rw [e]; exact c
      · exact b p (by omega) hs
    · rintro ⟨a, b⟩
      exact ⟨⟨a, fun p hp hs => b p (by omega) hs⟩, b q (by omega) hq⟩
  · rw [b_and, Bool.and_eq_true, h2 k hk, fd_not _ hk, fd_bn _ hk, Bool.not_eq_true']
    constructor
    · rintro ⟨⟨a, b⟩, c⟩
      refine ⟨a, fun p hp hs => ?_⟩
      by_cases e : p = q
      · rw [e]; exact c
      · exact b p (by omega) hs
    · rintro ⟨a, b⟩
      exact ⟨⟨a, fun p hp hs => b p (by omega) hs⟩, b q (by omega) hq⟩
theorem fd_sXf {ps : Nat → Bool} {A q : Nat} {ay an f : Int32} (h : fd_sX ps A q ay an f) (hq : ps q = false) : fd_sX ps A (q + 1) ay an f := by
  obtain ⟨h1, h2, h3⟩ := h
  have up : ∀ (G : Nat → Prop), (∀ p, p < q → ps p = true → G p) ↔ (∀ p, p < q + 1 → ps p = true → G p) := by
    intro G
    constructor
    · intro b p hp hs
      by_cases e : p = q
      · rw [e, hq] at hs
        exact nomatch hs
      · exact b p (by omega) hs
    · exact fun b p hp hs => b p (by omega) hs
  refine ⟨fun k hk => ?_, fun k hk => ?_, ?_⟩
  · rw [h1 k hk, up (fun p => p.testBit k = true)]
  · rw [h2 k hk, up (fun p => p.testBit k = false)]
  · rcases h3 with ⟨a, p, b, c⟩ | ⟨a, b⟩
    · exact Or.inl ⟨a, p, by omega, c⟩
    · refine Or.inr ⟨a, fun p hp => ?_⟩
      by_cases e : p = q
      · rw [e]; exact hq
      · exact b p (by omega)
theorem fd_sY0 {ps : Nat → Bool} : fd_sY ps 0 0 0 := by
  refine ⟨fun k hk => ?_, fun k hk => ?_⟩ <;> rw [b_0] <;> exact ⟨fun z => (nomatch z), fun ⟨p, hp, _⟩ => by omega⟩
theorem fd_sYt {ps : Nat → Bool} {q : Nat} {y n : Int32} (h : fd_sY ps q y n) (hq : ps q = true) : fd_sY ps (q + 1) (y ||| nI q) (n ||| (nI q ^^^ (-1))) := by
  obtain ⟨h1, h2⟩ := h
  refine ⟨fun k hk => ?_, fun k hk => ?_⟩
  · rw [b_or, Bool.or_eq_true, h1 k hk, fd_bn _ hk]
    constructor
    · rintro (⟨p, a, b⟩ | c)
      · exact ⟨p, by omega, b⟩
      · exact ⟨q, by omega, hq, c⟩
    · rintro ⟨p, a, b, c⟩
      by_cases e : p = q
      · rw [e] at c; exact Or.inr c
      · exact Or.inl ⟨p, by omega, b, c⟩
  · rw [b_or, Bool.or_eq_true, h2 k hk, fd_not _ hk, fd_bn _ hk, Bool.not_eq_true']
    constructor
    · rintro (⟨p, a, b⟩ | c)
      · exact ⟨p, by omega, b⟩
      · exact ⟨q, by omega, hq, c⟩
    · rintro ⟨p, a, b, c⟩
      by_cases e : p = q
      · rw [e] at c; exact Or.inr c
      · exact Or.inl ⟨p, by omega, b, c⟩
theorem fd_sYf {ps : Nat → Bool} {q : Nat} {y n : Int32} (h : fd_sY ps q y n) (hq : ps q = false) : fd_sY ps (q + 1) y n := by
  obtain ⟨h1, h2⟩ := h
  have up : ∀ (G : Nat → Prop), (∃ p, p < q ∧ ps p = true ∧ G p) ↔ (∃ p, p < q + 1 ∧ ps p = true ∧ G p) := by
    intro G
    constructor
    · rintro ⟨p, a, b⟩
      exact ⟨p, by omega, b⟩
    · rintro ⟨p, a, b, c⟩
      by_cases e : p = q
      · rw [e, hq] at b
        exact nomatch b
      · exact ⟨p, by omega, b, c⟩
  refine ⟨fun k hk => ?_, fun k hk => ?_⟩
  · rw [h1 k hk, up (fun p => p.testBit k = true)]
  · rw [h2 k hk, up (fun p => p.testBit k = false)]
theorem fd_sYn {ps : Nat → Bool} {q : Nat} {y n : Int32} (h : fd_sY ps q y n) (hq : ∀ p, p < q → ps p = false) : y ||| n = 0 := by
  apply b_ext
  intro i hi
  rw [b_or, b_0, Bool.or_eq_false_iff]
  constructor
  · refine Bool.eq_false_iff.mpr (fun z => ?_)
    obtain ⟨p, a, b, _⟩ := (h.1 i hi).1 z
    rw [hq p a] at b
    exact nomatch b
  · refine Bool.eq_false_iff.mpr (fun z => ?_)
    obtain ⟨p, a, b, _⟩ := (h.2 i hi).1 z
    rw [hq p a] at b
    exact nomatch b
theorem fd_sYs {ps : Nat → Bool} {q : Nat} {y n : Int32} (h : fd_sY ps q y n) (hq : ∃ p, p < q ∧ ps p = true) : ¬ y ||| n = 0 := by
  intro z
  obtain ⟨p, a, b⟩ := hq
  have e := congrArg (fun w => bt w 0) z
  simp only [b_or, b_0, Bool.or_eq_false_iff] at e
  cases t : p.testBit 0 with
  | true =>
    rw [(h.1 0 (by omega)).2 ⟨p, a, b, t⟩] at e
    exact nomatch e.1
  | false =>
    rw [(h.2 0 (by omega)).2 ⟨p, a, b, t⟩] at e
    exact nomatch e.2
theorem fd_set {ps : Nat → Bool} {A q : Nat} {ay an f y n : Int32} (hA : A ≤ 10) (hX : fd_sX ps A q ay an f) (hY : fd_sY ps q y n) (hq : ∃ p, p < q ∧ ps p = true) : fd_cb (bt (ay ||| an)) 10 = fd_cb (fun k => bt y k != bt n k) A := by
  obtain ⟨p0, a0, b0⟩ := hq
  have key : ∀ k, k < A → bt (ay ||| an) k = (bt y k != bt n k) := by
    intro k hk
    have x1 := hX.1 k (by omega)
    have x2 := hX.2.1 k (by omega)
    have y1 := hY.1 k (by omega)
    have y2 := hY.2 k (by omega)
    rw [b_or]
    cases t1 : bt y k with
    | true =>
      obtain ⟨p, a, b, c⟩ := y1.1 t1
      have z2 : bt an k = false := Bool.eq_false_iff.mpr (fun z => by
        have := (x2.1 z).2 p a b
        rw [c] at this
        exact nomatch this)
      rw [z2]
      cases t2 : bt n k with
      | true =>
        obtain ⟨p', a', b', c'⟩ := y2.1 t2
        have z1 : bt ay k = false := Bool.eq_false_iff.mpr (fun z => by
          have := (x1.1 z).2 p' a' b'
          rw [c'] at this
          exact nomatch this)
        rw [z1]
        rfl
      | false =>
        have z1 : bt ay k = true := x1.2 ⟨hk, fun p' a' b' => by
          cases s : p'.testBit k with
          | true => rfl
          | false =>
            rw [y2.2 ⟨p', a', b', s⟩] at t2
            exact nomatch t2⟩
        rw [z1]
        rfl
    | false =>
      have z2 : bt an k = true := x2.2 ⟨hk, fun p' a' b' => by
        cases s : p'.testBit k with
        | false => rfl
        | true =>
          rw [y1.2 ⟨p', a', b', s⟩] at t1
          exact nomatch t1⟩
      have t2 : bt n k = true := y2.2 ⟨p0, a0, b0, (x2.1 z2).2 p0 a0 b0⟩
      rw [z2, t2, Bool.or_true]
      rfl
  obtain ⟨d, hd⟩ : ∃ d, 10 = A + d := ⟨10 - A, by omega⟩
  rw [hd, fd_cbX A d ?_]
  · exact fd_cbC A key
  · intro j h1 h2
    rw [b_or, Bool.or_eq_false_iff]
    exact ⟨Bool.eq_false_iff.mpr (fun z => by have := ((hX.1 j (by omega)).1 z).1; omega), Bool.eq_false_iff.mpr (fun z => by have := ((hX.2.1 j (by omega)).1 z).1; omega)⟩
/-- greatest -/
def fd_vl (L R C : Nat → Int32) (n i j p : Nat) : Int := match fd_rs L R C n (p / 32) with
  | none => 0
  | some P => P i j
def fd_gI (ps : Nat → Bool) (vl : Nat → Int) (q : Nat) (best : Int64) : Prop :=
  (∀ p, p < q → ps p = true → vl p ≠ 1000000000) ∧ ((best = 3000000000 ∧ ∀ p, p < q → ps p = false) ∨ (∃ p, p < q ∧ ps p = true ∧ (best.toInt = vl p ∧ vl p < 2147483648) ∧ ∀ p', p' < q → ps p' = true → vl p' ≤ vl p))
def fd_gR (ps : Nat → Bool) (vl : Nat → Int) (q : Nat) (r : Int64) : Prop := (r = 3000000001 ∧ ∃ p, p < q ∧ ps p = true ∧ vl p = 1000000000) ∨ fd_gI ps vl q r
theorem fd_gU {ps : Nat → Bool} {vl : Nat → Int} {q : Nat} {r r' : Int64} (h : fd_gR ps vl q r) (h' : fd_gR ps vl q r') : r' = r := by
  rcases h with ⟨a, p, b, c, d⟩ | ⟨a, b⟩
  · rcases h' with ⟨a', _⟩ | ⟨a', _⟩
    · rw [a, a']
    · exact (a' p b c d).elim
  · rcases h' with ⟨_, p, b', c', d'⟩ | ⟨a', b'⟩
    · exact (a p b' c' d').elim
    · rcases b with ⟨e, f⟩ | ⟨p, e, f, g, k⟩
      · rcases b' with ⟨e', _⟩ | ⟨p', e', f', _⟩
        · rw [e, e']
        · rw [f p' e'] at f'
          exact nomatch f'
      · rcases b' with ⟨_, f'⟩ | ⟨p', e', f', g', k'⟩
        · rw [f' p e] at f
          exact nomatch f
        · have h1 := k p' e' f'
          have h2 := k' p e f
          exact Int64.toInt_inj.mp (by omega)
theorem fd_g0 {ps : Nat → Bool} {vl : Nat → Int} : fd_gI ps vl 0 3000000000 := ⟨fun p hp => by omega, Or.inl ⟨rfl, fun p hp => by omega⟩⟩
/-- a block q .. q' of patterns that share one value v -/
theorem fd_gS {ps : Nat → Bool} {vl : Nat → Int} {q q' : Nat} {best : Int64} (h : fd_gI ps vl q best) (hq : q ≤ q') (v : Int) (hv : ∀ p, q ≤ p → p < q' → vl p = v) (hs : ∃ p, q ≤ p ∧ p < q' ∧ ps p = true) (hb : v ≠ 1000000000) (best' : Int64) (hr : v < 2147483648)
    (ht : (best = 3000000000 ∨ best.toInt < v) → best'.toInt = v) (hf : ¬ best = 3000000000 → ¬ best.toInt < v → best' = best) : fd_gI ps vl q' best' := by
  obtain ⟨a, b⟩ := h
  obtain ⟨p0, h1, h2, h3⟩ := hs
  refine ⟨fun p hp hs => ?_, ?_⟩
  · by_cases e : p < q
    · exact a p e hs
    · rw [hv p (by omega) hp]
      exact hb
  · rcases b with ⟨c, d⟩ | ⟨p, c, d, e, f⟩
    · refine Or.inr ⟨p0, h2, h3, ?_, fun p' hp' hs' => ?_⟩
      · rw [ht (Or.inl c), hv p0 h1 h2]
        exact ⟨rfl, hr⟩
      · by_cases z : p' < q
        · rw [d p' z] at hs'
          exact nomatch hs'
        · rw [hv p' (by omega) hp', hv p0 h1 h2]
          exact Int.le_refl _
    · by_cases z : best = 3000000000 ∨ best.toInt < v
      · have z2 : best.toInt < v ∨ best.toInt = 3000000000 := z.elim (fun w => Or.inr (by rw [w]; decide)) Or.inl
        refine Or.inr ⟨p0, h2, h3, ?_, fun p' hp' hs' => ?_⟩
        · rw [ht z, hv p0 h1 h2]
          exact ⟨rfl, hr⟩
        · rw [hv p0 h1 h2]
          by_cases y : p' < q
          · have := f p' y hs'
            omega
          · rw [hv p' (by omega) hp']
            exact Int.le_refl _
      · refine Or.inr ⟨p, by omega, d, ?_, fun p' hp' hs' => ?_⟩
        · rw [hf (fun w => z (Or.inl w)) (fun w => z (Or.inr w))]
          exact e
        · by_cases y : p' < q
          · exact f p' y hs'
          · rw [hv p' (by omega) hp']
            have : ¬ best.toInt < v := fun w => z (Or.inr w)
            omega
/-- a block of patterns of which none is possible -/
theorem fd_gN {ps : Nat → Bool} {vl : Nat → Int} {q q' : Nat} {best : Int64} (h : fd_gI ps vl q best) (hq : q ≤ q') (hs : ∀ p, q ≤ p → p < q' → ps p = false) : fd_gI ps vl q' best := by
  obtain ⟨a, b⟩ := h
  have out : ∀ p, p < q' → ps p = true → p < q := by
    intro p hp hs'
    apply Classical.byContradiction
    intro w
    rw [hs p (by omega) hp] at hs'
    exact nomatch hs'
  refine ⟨fun p hp hs' => a p (out p hp hs') hs', ?_⟩
  rcases b with ⟨c, d⟩ | ⟨p, c, d, e, f⟩
  · refine Or.inl ⟨c, fun p hp => ?_⟩
    by_cases z : p < q
    · exact d p z
    · exact hs p (by omega) hp
  · exact Or.inr ⟨p, by omega, d, e, fun p' hp' hs' => f p' (out p' hp' hs') hs'⟩
