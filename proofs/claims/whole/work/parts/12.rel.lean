/-! the relation, and what is owed -/
section
def fd_Inv (n c l H : Nat) (w : Int32) (aL aR aC aY aN aD aE aP aT aW aS : Nat → Int32) : Prop :=
  fd_D n aL aR aC ∧ (c ≤ H ∧ H ≤ 24 ∧ l ≤ 4) ∧ (∀ k, ∃ m : Nat, m ≤ 5 ∧ aD k = nI m) ∧ (∀ k, ∃ m : Nat, m ≤ H ∧ aE k = nI m) ∧ fd_pr aP ∧ (∀ k, k < H → fd_cr aY aN aT k) ∧ (∀ k, k < 4 * H → fd_lt (aT k)) ∧ (w = nI n → fd_tab n aL aR aC aW aS)
def i_Rel (_ : Nat) (u : SX) (v : SY) : Prop := ∃ (n c l H : Nat) (w : Int32) (aL aR aC aY aN aD aE aP aQ aB aT aW aS : Nat → Int32), u = (nI n, nI c, nI l, aL, aR, aC, aY, aN, aD, aE, aP, aQ, aB) ∧ v = (nI n, nI c, nI l, w, aL, aR, aC, aT, aD, aE, aW, aS, aP) ∧ fd_Inv n c l H w aL aR aC aY aN aD aE aP aT aW aS
theorem i_up {k : Nat} {u : SX} {v : SY} (h : i_Rel k u v) : i_Rel (k + 5) u v := h
end
section
variable {n c l H k0 : Nat} {w : Int32} {aL aR aC aY aN aD aE aP aQ aB aT aW aS : Nat → Int32}
theorem fd_mkR (h : fd_Inv n c l H w aL aR aC aY aN aD aE aP aT aW aS) : i_Rel k0 (nI n, nI c, nI l, aL, aR, aC, aY, aN, aD, aE, aP, aQ, aB) (nI n, nI c, nI l, w, aL, aR, aC, aT, aD, aE, aW, aS, aP) := ⟨n, c, l, H, w, aL, aR, aC, aY, aN, aD, aE, aP, aQ, aB, aT, aW, aS, rfl, rfl, h⟩
theorem fd_invX (h : fd_Inv n c l H w aL aR aC aY aN aD aE aP aT aW aS) : fd_BX n c aL aR aC aT aY aN := ⟨h.1, by have := h.2.1; omega, fun k hk => h.2.2.2.2.2.1 k (by have := h.2.1; omega)⟩
theorem fd_invY (h : fd_Inv n c l H w aL aR aC aY aN aD aE aP aT aW aS) : fd_BY n c w aL aR aC aT aW aS := ⟨h.1, by have := h.2.1; omega, fun k hk => h.2.2.2.2.2.2.1 k (by have := h.2.1; omega), h.2.2.2.2.2.2.2⟩
theorem fd_invT {b s : Nat → Int32} (h : fd_Inv n c l H w aL aR aC aY aN aD aE aP aT aW aS) (hT : fd_tab n aL aR aC b s) : fd_Inv n c l H (nI n) aL aR aC aY aN aD aE aP aT b s := ⟨h.1, h.2.1, h.2.2.1, h.2.2.2.1, h.2.2.2.2.1, h.2.2.2.2.2.1, h.2.2.2.2.2.2.1, fun _ => hT⟩
/-! check, implied -/
theorem fd_ftI (p : Nat) (v : Int32) : fd_ft p v = true ↔ (v = -1 ∨ fd_lh p v = true) := by
  unfold fd_ft
  rw [Bool.or_eq_true, decide_eq_true_eq]
theorem xc_check {post : Int32 → SX → Prop} (hX : fd_BX n c aL aR aC aT aY aN) {v1 v2 v3 : Int32} (m1 : fd_may n v1) (m2 : fd_may n v2) (m3 : fd_may n v3) (h : ∀ qq b : Nat → Int32, post (fd_b (fd_ex (fun p => fd_ft p v1 && (fd_ft p v2 && (fd_ft p v3 && fd_ps aL aR aC aT n c p))) (32 * 2 ^ n) 0)) (nI n, nI c, nI l, aL, aR, aC, aY, aN, aD, aE, aP, qq, b)) : wpX_check post (nI n, nI c, nI l, aL, aR, aC, aY, aN, aD, aE, aP, aQ, aB) v1 v2 v3 := by
  have hn := hX.1.1
  have h2 := fd_2n hn
  have t1 := fd_mayL hn m1
  have t2 := fd_mayL hn m2
  have t3 := fd_mayL hn m3
  unfold wpX_check
  dsimp only
  refine xc_may hn v1 (fun _ => br_f (by decide) (xc_may hn v2 (fun _ => br_f (by decide) (xc_may hn v3 (fun _ => br_f (by decide) ?_) (fun z => (z m3).elim))) (fun z => (z m2).elim))) (fun z => (z m1).elim)
  refine xc_yes t1 (xc_yes t2 (xc_yes t3 (nm_e (xc_no t1 (xc_no t2 (xc_no t3 (nm_e ?_)))))))
  refine xc_has hX _ _ (fun p => fd_ft p v1 && (fd_ft p v2 && (fd_ft p v3 && fd_ps aL aR aC aT n c p))) ?_ (fun qq b => ?_)
  · intro p hp
    have k1 := fd_lit2 p t1
    have k2 := fd_lit2 p t2
    have k3 := fd_lit2 p t3
    simp only [Bool.and_eq_true]
    rw [fd_ftI, fd_ftI, fd_ftI, ← k1, ← k2, ← k3, fd_or1, fd_or1, fd_or0, fd_or0]
    constructor
    · rintro ⟨⟨a1, b1⟩, ⟨a2, b2⟩, ⟨a3, b3⟩, d⟩
      exact ⟨d, ⟨⟨a1, a2⟩, a3⟩, ⟨⟨b1, b2⟩, b3⟩⟩
    · rintro ⟨d, ⟨⟨a1, a2⟩, a3⟩, ⟨⟨b1, b2⟩, b3⟩⟩
      exact ⟨⟨a1, b1⟩, ⟨a2, b2⟩, ⟨a3, b3⟩, d⟩
  · have := h qq b
    cases e : fd_ex (fun p => fd_ft p v1 && (fd_ft p v2 && (fd_ft p v3 && fd_ps aL aR aC aT n c p))) (32 * 2 ^ n) 0 with
    | false =>
      rw [e] at this
      exact br_t rfl this
    | true =>
      rw [e] at this
      exact br_f (by decide) this
theorem xc_checkR {post : Int32 → SX → Prop} (hn : n ≤ 5) {v1 v2 v3 : Int32} (hr : ¬ (fd_may n v1 ∧ fd_may n v2 ∧ fd_may n v3)) (h : post (-1) (nI n, nI c, nI l, aL, aR, aC, aY, aN, aD, aE, aP, aQ, aB)) : wpX_check post (nI n, nI c, nI l, aL, aR, aC, aY, aN, aD, aE, aP, aQ, aB) v1 v2 v3 := by
  unfold wpX_check
  dsimp only
  exact xc_may hn v1 (fun a => br_f (by decide) (xc_may hn v2 (fun b => br_f (by decide) (xc_may hn v3 (fun d => (hr ⟨a, b, d⟩).elim) (fun _ => br_t rfl h))) (fun _ => br_t rfl h))) (fun _ => br_t rfl h)
theorem yc_checkR {post : Int32 → SY → Prop} (hn : n ≤ 5) {v1 v2 v3 : Int32} (hr : ¬ (fd_may n v1 ∧ fd_may n v2 ∧ fd_may n v3)) (h : post (-1) (nI n, nI c, nI l, w, aL, aR, aC, aT, aD, aE, aW, aS, aP)) : wpY_check post (nI n, nI c, nI l, w, aL, aR, aC, aT, aD, aE, aW, aS, aP) v1 v2 v3 := by
  unfold wpY_check
  dsimp only
  exact yc_may hn v1 (fun a => br_f (by decide) (yc_may hn v2 (fun b => br_f (by decide) (yc_may hn v3 (fun d => (hr ⟨a, b, d⟩).elim) (fun _ => br_t rfl h))) (fun _ => br_t rfl h))) (fun _ => br_t rfl h)
theorem xc_implied {post : Int32 → SX → Prop} (hX : fd_BX n c aL aR aC aT aY aN) {a : Nat} (ha : a < 10 + 2 * n) (h : ∀ qq b : Nat → Int32, post (fd_b (!(fd_ex (fun p => !(fd_lh p (nI a)) && fd_ps aL aR aC aT n c p) (32 * 2 ^ n) 0))) (nI n, nI c, nI l, aL, aR, aC, aY, aN, aD, aE, aP, qq, b)) : wpX_implied post (nI n, nI c, nI l, aL, aR, aC, aY, aN, aD, aE, aP, aQ, aB) (nI a) := by
  have hn := hX.1.1
  have t1 : fd_lt (nI a) := Or.inr ⟨a, by omega, rfl⟩
  unfold wpX_implied
  dsimp only
  refine xc_isLit hn (nI a) (fun _ => br_f (by decide) ?_) (fun z => (z ⟨a, ha, rfl⟩).elim)
  refine xc_no t1 (xc_yes t1 ?_)
  refine xc_has hX _ _ (fun p => !(fd_lh p (nI a)) && fd_ps aL aR aC aT n c p) ?_ (fun qq b => ?_)
  · intro p hp
    rw [Bool.and_eq_true, Bool.not_eq_true', ← fd_lit3 p (by omega)]
    constructor
    · rintro ⟨⟨a1, b1⟩, d⟩
      exact ⟨d, a1, b1⟩
    · rintro ⟨d, a1, b1⟩
      exact ⟨⟨a1, b1⟩, d⟩
  · have := h qq b
    cases e : fd_ex (fun p => !(fd_lh p (nI a)) && fd_ps aL aR aC aT n c p) (32 * 2 ^ n) 0 with
    | false =>
      rw [e] at this
      exact br_t rfl this
    | true =>
      rw [e] at this
      exact br_f (by decide) this
/-! the least cost is below every possible pattern's -/
theorem fd_mnL (ps : Nat → Bool) (ct : Nat → Nat) (i : Nat) (s : Int64) : fd_mn ps ct i s ≤ s ∧ (ps i = true → fd_mn ps ct i s ≤ lN (ct i)) := by
  unfold fd_mn
  by_cases z : ps i = true ∧ lN (ct i) < s
  · rw [if_pos z]
    exact ⟨Int64.le_of_lt z.2, fun _ => Int64.le_refl _⟩
  · rw [if_neg z]
    exact ⟨Int64.le_refl _, fun q => Int64.not_lt.mp (fun y => z ⟨q, y⟩)⟩
theorem fd_mnS (ps : Nat → Bool) (ct : Nat → Nat) : ∀ d i s, fd_lo (fd_mn ps ct) d i s ≤ s
  | 0, _, s => Int64.le_refl s
  | d + 1, i, s => Int64.le_trans (fd_mnS ps ct d (i + 1) (fd_mn ps ct i s)) (fd_mnL ps ct i s).1
theorem fd_mnP (ps : Nat → Bool) (ct : Nat → Nat) (p : Nat) (hp : ps p = true) : ∀ d i s, i ≤ p → p < i + d → fd_lo (fd_mn ps ct) d i s ≤ lN (ct p)
  | 0, i, s, h1, h2 => by omega
  | d + 1, i, s, h1, h2 => by
    by_cases e : p = i
    · subst e
      exact Int64.le_trans (fd_mnS ps ct d (p + 1) (fd_mn ps ct p s)) ((fd_mnL ps ct p s).2 hp)
    · exact fd_mnP ps ct p hp d (i + 1) (fd_mn ps ct i s) (by omega) (by omega)
theorem fd_ctN {p : Nat} (hn : n ≤ 5) (hpr : fd_pr aP) : ¬ (3000000000 : Int64) < lN (fd_ct aP p (5 + n)) := by
  have := fd_ctB hpr p (5 + n)
  rw [Int64.lt_iff_toInt_lt, pk_lT (by omega), show (3000000000 : Int64).toInt = 3000000000 from by decide]
  omega
end
theorem fd_z1 : -1000 ≤ (0 : Int32).toInt := by decide
theorem fd_z2 : (0 : Int32).toInt ≤ 1000 := by decide
theorem i_vc0 : wpX_init (fun u => wpY_init (fun v => i_Rel 0 u v)) := by
  refine fd_mkR (k0 := 0) (n := 0) (c := 0) (l := 0) (H := 0) ⟨⟨by omega, fun d => ⟨⟨0, by omega, rfl⟩, ⟨0, by omega, rfl⟩, fd_z1, fd_z2⟩⟩, ⟨by omega, by omega, by omega⟩, fun k => ⟨0, by omega, rfl⟩, fun k => ⟨0, by omega, rfl⟩, fun k => ⟨0, by omega, rfl⟩, fun k hk => by omega, fun k hk => by omega, fun z => ?_⟩
  exact (fd_nIm1 (a := 0) (by omega) z.symm).elim
theorem i_vc_check {k : Nat} {u : SX} {v : SY} (I : i_Rel k u v) (hk : k + 5 ≤ 2560) (v1 : Int32) (v2 : Int32) (v3 : Int32) : wpX_check (fun r u' => wpY_check (fun r' v' => r' = r ∧ i_Rel (k + 5) u' v') v v1 v2 v3) u v1 v2 v3 := by
  obtain ⟨n, c, l, H, w, aL, aR, aC, aY, aN, aD, aE, aP, aQ, aB, aT, aW, aS, rfl, rfl, hI⟩ := I
  have hn := hI.1.1
  by_cases m : fd_may n v1 ∧ fd_may n v2 ∧ fd_may n v3
  · exact xc_check (fd_invX hI) m.1 m.2.1 m.2.2 (fun qq b => yc_check (fd_invY hI) m.1 m.2.1 m.2.2 (fun b' s' hT => ⟨rfl, fd_mkR (fd_invT hI hT)⟩))
  · exact xc_checkR hn m (yc_checkR hn m ⟨rfl, fd_mkR hI⟩)
theorem i_vc_implied {k : Nat} {u : SX} {v : SY} (I : i_Rel k u v) (hk : k + 5 ≤ 2560) (v1 : Int32) : wpX_implied (fun r u' => wpY_implied (fun r' v' => r' = r ∧ i_Rel (k + 5) u' v') v v1) u v1 := by
  obtain ⟨n, c, l, H, w, aL, aR, aC, aY, aN, aD, aE, aP, aQ, aB, aT, aW, aS, rfl, rfl, hI⟩ := I
  have hn := hI.1.1
  by_cases m : fd_isl n v1
  · obtain ⟨a, ha, rfl⟩ := m
    exact xc_implied (fd_invX hI) ha (fun qq b => yc_implied (fd_invY hI) ha (fun b' s' hT => ⟨rfl, fd_mkR (fd_invT hI hT)⟩))
  · unfold wpX_implied
    dsimp only
    refine xc_isLit hn v1 (fun z => (m z).elim) (fun _ => br_t rfl ?_)
    unfold wpY_implied
    dsimp only
    exact yc_isLit hn v1 (fun z => (m z).elim) (fun _ => br_t rfl ⟨rfl, fd_mkR hI⟩)
theorem i_vc_greatest {k : Nat} {u : SX} {v : SY} (I : i_Rel k u v) (hk : k + 5 ≤ 2560) (v1 : Int32) (v2 : Int32) : wpX_greatest (fun r u' => wpY_greatest (fun r' v' => r' = r ∧ i_Rel (k + 5) u' v') v v1 v2) u v1 v2 := by
  obtain ⟨n, c, l, H, w, aL, aR, aC, aY, aN, aD, aE, aP, aQ, aB, aT, aW, aS, rfl, rfl, hI⟩ := I
  have hn := hI.1.1
  by_cases m : fd_var v1 ∧ fd_var v2 ∧ ¬ v1 = v2
  · obtain ⟨⟨i, hi, rfl⟩, ⟨j, hj, rfl⟩, hij⟩ := m
    exact xc_greatest (fd_invX hI) hi hj hij (fun qq b r hr => yc_greatest (fd_invY hI) hi hj hij (fun b' s' r' hT hr' => ⟨fd_gU hr hr', fd_mkR (fd_invT hI hT)⟩))
  · unfold wpX_greatest
    dsimp only
    refine xc_two v1 v2 (fun z => (m z).elim) (fun _ => br_t rfl ?_)
    unfold wpY_greatest
    dsimp only
    exact yc_var v1 (fun a => br_f (by decide) (yc_var v2 (fun b => br_f (by decide) (br_c (fun _ => ⟨rfl, fd_mkR hI⟩) (fun d => (m ⟨a, b, d⟩).elim))) (fun _ => br_t rfl ⟨rfl, fd_mkR hI⟩))) (fun _ => br_t rfl ⟨rfl, fd_mkR hI⟩)
theorem i_vc_patterns {k : Nat} {u : SX} {v : SY} (I : i_Rel k u v) (hk : k + 5 ≤ 2560) : wpX_patterns (fun r u' => wpY_patterns (fun r' v' => r' = r ∧ i_Rel (k + 5) u' v') v) u := by
  obtain ⟨n, c, l, H, w, aL, aR, aC, aY, aN, aD, aE, aP, aQ, aB, aT, aW, aS, rfl, rfl, hI⟩ := I
  exact xc_patterns (fd_invX hI) (fun qq b => yc_patterns (fd_invY hI) (fun b' s' hT => ⟨rfl, fd_mkR (fd_invT hI hT)⟩))
theorem i_vc_settled {k : Nat} {u : SX} {v : SY} (I : i_Rel k u v) (hk : k + 5 ≤ 2560) : wpX_settled (fun r u' => wpY_settled (fun r' v' => r' = r ∧ i_Rel (k + 5) u' v') v) u := by
  obtain ⟨n, c, l, H, w, aL, aR, aC, aY, aN, aD, aE, aP, aQ, aB, aT, aW, aS, rfl, rfl, hI⟩ := I
  have hn := hI.1.1
  refine xc_settled (fd_invX hI) (fun qq b ay an f hs => yc_settled (fd_invY hI) (fun b' s' y z hT ht => ?_))
  rcases hs.2.2 with ⟨e, hx⟩ | ⟨e, hx⟩
  · rw [if_neg (by rw [e]; decide), fd_set (by omega) hs ht hx]
    exact ⟨fun q => (fd_sYs ht hx q).elim, fun _ => ⟨rfl, fd_mkR (fd_invT hI hT)⟩⟩
  · rw [if_pos e]
    exact ⟨fun _ => ⟨rfl, fd_mkR (fd_invT hI hT)⟩, fun q => (q (fd_sYn ht hx)).elim⟩
theorem i_vc_cheapest {k : Nat} {u : SX} {v : SY} (I : i_Rel k u v) (hk : k + 5 ≤ 2560) : wpX_cheapest (fun r u' => wpY_cheapest (fun r' v' => r' = r ∧ i_Rel (k + 5) u' v') v) u := by
  obtain ⟨n, c, l, H, w, aL, aR, aC, aY, aN, aD, aE, aP, aQ, aB, aT, aW, aS, rfl, rfl, hI⟩ := I
  have hn := hI.1.1
  have hpr := hI.2.2.2.2.1
  unfold wpX_cheapest
  dsimp only
  refine xc_mark (fd_invX hI) (fun qq b hqq => ?_)
  dsimp only
  exact xc_least hn hpr _ hqq (yc_cheapest (fd_invY hI) hpr (fun b' s' hT => ⟨rfl, fd_mkR (fd_invT hI hT)⟩))
theorem i_vc_first {k : Nat} {u : SX} {v : SY} (I : i_Rel k u v) (hk : k + 5 ≤ 2560) : wpX_first (fun r u' => wpY_first (fun r' v' => r' = r ∧ i_Rel (k + 5) u' v') v) u := by
  obtain ⟨n, c, l, H, w, aL, aR, aC, aY, aN, aD, aE, aP, aQ, aB, aT, aW, aS, rfl, rfl, hI⟩ := I
  have hn := hI.1.1
  have hpr := hI.2.2.2.2.1
  unfold wpX_first
  dsimp only
  refine xc_mark (fd_invX hI) (fun qq b hqq => ?_)
  dsimp only
  exact xc_first hn hpr _ (fd_ps aL aR aC aT n c) _ hqq (fun p hp => ⟨fun z => ⟨z, fd_ctN hn hpr⟩, fun z => z.1⟩) (yc_first (fd_invY hI) (fun b' s' hT => ⟨rfl, fd_mkR (fd_invT hI hT)⟩))
theorem i_vc_firstCheapest {k : Nat} {u : SX} {v : SY} (I : i_Rel k u v) (hk : k + 5 ≤ 2560) : wpX_firstCheapest (fun r u' => wpY_firstCheapest (fun r' v' => r' = r ∧ i_Rel (k + 5) u' v') v) u := by
  obtain ⟨n, c, l, H, w, aL, aR, aC, aY, aN, aD, aE, aP, aQ, aB, aT, aW, aS, rfl, rfl, hI⟩ := I
  have hn := hI.1.1
  have hpr := hI.2.2.2.2.1
  unfold wpX_firstCheapest
  dsimp only
  refine xc_mark (fd_invX hI) (fun qq b hqq => ?_)
  dsimp only
  refine xc_least hn hpr _ hqq ?_
  refine xc_first hn hpr _ (fun p => fd_ps aL aR aC aT n c p && decide (lN (fd_ct aP p (5 + n)) = fd_lo (fd_mn (fd_ps aL aR aC aT n c) (fun p => fd_ct aP p (5 + n))) (32 * 2 ^ n) 0 3000000000)) _ hqq ?_ (yc_firstCheapest (fd_invY hI) hpr _ ?_ (fun b' s' hT => ⟨rfl, fd_mkR (fd_invT hI hT)⟩))
  · intro p hp
    rw [Bool.and_eq_true, decide_eq_true_eq]
    refine ⟨fun z => ⟨z.1, fun y => ?_⟩, fun z => ⟨z.1, ?_⟩⟩
    · rw [z.2] at y
      exact Int64.lt_irrefl y
    · exact Int64.le_antisymm (Int64.not_lt.mp z.2) (fd_mnP _ (fun p => fd_ct aP p (5 + n)) p z.1 (32 * 2 ^ n) 0 3000000000 (by omega) (by omega))
  · intro p hp
    rw [Bool.and_eq_true, decide_eq_true_eq]
theorem i_vc_size {k : Nat} {u : SX} {v : SY} (I : i_Rel k u v) (hk : k + 5 ≤ 2560) : wpX_size (fun r => wpY_size (fun r' => r' = r ∧ i_Rel (k + 5) u v) v) u := by
  obtain ⟨n, c, l, H, w, aL, aR, aC, aY, aN, aD, aE, aP, aQ, aB, aT, aW, aS, rfl, rfl, hI⟩ := I
  exact ⟨rfl, fd_mkR hI⟩
