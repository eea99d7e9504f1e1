/-! what both sides know of a state: the sound choices, the clauses, the possible patterns, the costs; folds -/
def fd_b (b : Bool) : Int32 := if b = true then 1 else 0
def fd_rs (L R C : Nat → Int32) (n ch : Nat) : Option (Nat → Nat → Int) := fd_res (fun d => (L d).toNatClampNeg) (fun d => (R d).toNatClampNeg) (fun d => (C d).toInt) n ch
/-- clause k of the literals holds in pattern p -/
def fd_c1 (lit : Nat → Int32) (p k : Nat) : Bool := fd_lh p (lit (4 * k)) || fd_lh p (lit (4 * k + 1)) || fd_lh p (lit (4 * k + 2)) || fd_lh p (lit (4 * k + 3))
/-- all of d, from i on; some of d, from i on -/
def fd_al (q : Nat → Bool) : Nat → Nat → Bool
  | 0, _ => true
  | d + 1, i => q i && fd_al q d (i + 1)
def fd_ex (q : Nat → Bool) : Nat → Nat → Bool
  | 0, _ => false
  | d + 1, i => q i || fd_ex q d (i + 1)
def fd_ps (L R C lit : Nat → Int32) (n c p : Nat) : Bool := (fd_rs L R C n (p / 32)).isSome && fd_al (fd_c1 lit p) c 0
theorem fd_exC {q q' : Nat → Bool} : ∀ d i, (∀ j, i ≤ j → j < i + d → q j = q' j) → fd_ex q d i = fd_ex q' d i
  | 0, _, _ => rfl
  | d + 1, i, h => by
    simp only [fd_ex]
    rw [h i (Nat.le_refl _) (by omega), fd_exC d (i + 1) (fun j h1 h2 => h j (by omega) (by omega))]
theorem fd_exI {q : Nat → Bool} : ∀ d i, fd_ex q d i = true ↔ ∃ j, i ≤ j ∧ j < i + d ∧ q j = true
  | 0, i => ⟨fun h => (nomatch h), fun ⟨j, h1, h2, _⟩ => by omega⟩
  | d + 1, i => by
    simp only [fd_ex, Bool.or_eq_true]
    rw [fd_exI d (i + 1)]
    constructor
    · rintro (h | ⟨j, h1, h2, h3⟩)
      · exact ⟨i, by omega, by omega, h⟩
      · exact ⟨j, by omega, by omega, h3⟩
    · rintro ⟨j, h1, h2, h3⟩
      by_cases e : j = i
      · subst e
        exact Or.inl h3
      · exact Or.inr ⟨j, by omega, by omega, h3⟩
/-- a fold forwards -/
def fd_lo {σ : Type} (f : Nat → σ → σ) : Nat → Nat → σ → σ
  | 0, _, s => s
  | d + 1, i, s => fd_lo f d (i + 1) (f i s)
theorem fd_loC {σ : Type} {f g : Nat → σ → σ} (I : Nat → σ → Prop) (e : Nat) (hI : ∀ i s, i < e → I i s → I (i + 1) (f i s)) (h : ∀ i s, i < e → I i s → f i s = g i s) : ∀ d i s, i + d = e → I i s → fd_lo f d i s = fd_lo g d i s
  | 0, _, _, _, _ => rfl
  | d + 1, i, s, hd, hi => by
    simp only [fd_lo]
    rw [fd_loC I e hI h d (i + 1) (f i s) (by omega) (hI i s (by omega) hi), h i s (by omega) hi]
theorem fd_loI {σ : Type} {f : Nat → σ → σ} (I : Nat → σ → Prop) (e : Nat) (hI : ∀ i s, i < e → I i s → I (i + 1) (f i s)) : ∀ d i s, i + d = e → I i s → I e (fd_lo f d i s)
  | 0, i, s, hd, hi => by
    have : i = e := by omega
    subst this
    exact hi
  | d + 1, i, s, hd, hi => fd_loI I e hI d (i + 1) (f i s) (by omega) (hI i s (by omega) hi)
/-- a printed loop that folds -/
theorem fd_run {σ : Type} (W : Nat → Nat → σ → Prop) (f : Nat → σ → σ) (I : Nat → σ → Prop) (e : Nat) (post : σ → Prop) (hI : ∀ i s, i < e → I i s → I (i + 1) (f i s)) (hx : ∀ n s, I e s → post s → W (n + 1) e s)
    (hs : ∀ n i s, i < e → I i s → W n (i + 1) (f i s) → W (n + 1) i s) : ∀ d i s, i + d = e → I i s → post (fd_lo f d i s) → W (d + 1) i s
  | 0, i, s, hd, hi, hp => by
    have : i = e := by omega
    subst this
    exact hx 0 s hi hp
  | d + 1, i, s, hd, hi, hp => hs (d + 1) i s (by omega) hi (fd_run W f I e post hI hx hs d (i + 1) (f i s) (by omega) (hI i s (by omega) hi) hp)
/-- a printed loop that looks for the first hit -/
theorem fd_look (W : Nat → Nat → Prop) (q : Nat → Bool) (e : Nat) (P1 P0 : Prop) (hx : ∀ n, P0 → W (n + 1) e) (ht : ∀ n i, i < e → q i = true → P1 → W (n + 1) i) (hf : ∀ n i, i < e → q i = false → W n (i + 1) → W (n + 1) i) :
    ∀ d i, i + d = e → (fd_ex q d i = true → P1) → (fd_ex q d i = false → P0) → W (d + 1) i
  | 0, i, hd, _, h0 => by
    have : i = e := by omega
    subst this
    exact hx 0 (h0 rfl)
  | d + 1, i, hd, h1, h0 => by
    simp only [fd_ex] at h1 h0
    cases z : q i with
    | true =>
      rw [z] at h1
      exact ht _ i (by omega) z (h1 rfl)
    | false =>
      rw [z] at h1 h0
      exact hf _ i (by omega) z (fd_look W q e P1 P0 hx ht hf d (i + 1) (by omega) h1 h0)
theorem fd_alx {q : Nat → Bool} : ∀ d i, fd_al q d i = !(fd_ex (fun j => !(q j)) d i)
  | 0, _ => rfl
  | d + 1, i => by
    simp only [fd_al, fd_ex, fd_alx d (i + 1)]
    cases q i <;> simp
/-- what a pattern costs -/
def fd_ct (pr : Nat → Int32) (p : Nat) : Nat → Nat
  | 0 => 0
  | a + 1 => fd_ct pr p a + (pr (if p.testBit a = true then 2 * a else 2 * a + 1)).toNatClampNeg
def fd_pr (pr : Nat → Int32) : Prop := ∀ k, ∃ m : Nat, m ≤ 1000 ∧ pr k = nI m
theorem fd_ctB {pr : Nat → Int32} (h : fd_pr pr) (p : Nat) : ∀ a, fd_ct pr p a ≤ 1000 * a
  | 0 => Nat.le_refl _
  | a + 1 => by
    have h1 := fd_ctB h p a
    obtain ⟨m, hm, e⟩ := h (if p.testBit a = true then 2 * a else 2 * a + 1)
    simp only [fd_ct]
    rw [e, nI_clamp (by omega)]
    omega
/-- the least cost of the possible patterns; the first of the chosen patterns -/
def fd_mn (ps : Nat → Bool) (ct : Nat → Nat) (i : Nat) (s : Int64) : Int64 := if ps i = true ∧ lN (ct i) < s then lN (ct i) else s
def fd_bf (p : Nat) (best : Int32) : Prop := nI p &&& ((nI p ^^^ best) &&& -(nI p ^^^ best)) = 0
noncomputable def fd_fs (q : Nat → Bool) (i : Nat) (s : Int32) : Int32 := @ite Int32 (q i = true ∧ (s = -1 ∨ fd_bf i s)) (Classical.propDecidable _) (nI i) s
def fd_cn (ps : Nat → Bool) (i : Nat) (s : Int32) : Int32 := if ps i = true then s + 1 else s
def fd_fI (i : Nat) (s : Int32) : Prop := s = -1 ∨ ∃ b : Nat, b < i ∧ s = nI b
theorem fd_fsI {q : Nat → Bool} {e : Nat} : ∀ i s, i < e → fd_fI i s → fd_fI (i + 1) (fd_fs q i s) := by
  intro i s hi h
  unfold fd_fs
  split
  · exact Or.inr ⟨i, by omega, rfl⟩
  · rcases h with h | ⟨b, hb, h⟩
    · exact Or.inl h
    · exact Or.inr ⟨b, by omega, h⟩
