/-! the component: literals, clauses, the possible patterns -/
section
variable {n c l : Nat} {aL aR aC aY aN aD aE aP aQ aB aT : Nat → Int32}
def fd_isl (n : Nat) (v : Int32) : Prop := ∃ a : Nat, a < 10 + 2 * n ∧ v = nI a
def fd_may (n : Nat) (v : Int32) : Prop := v = -1 ∨ fd_isl n v
def fd_var (v : Int32) : Prop := ∃ i : Nat, i < 5 ∧ v = nI i
theorem fd_mayL {n : Nat} {v : Int32} (hn : n ≤ 5) (h : fd_may n v) : fd_lt v := by
  rcases h with h | ⟨a, ha, e⟩
  · exact Or.inl h
  · exact Or.inr ⟨a, by omega, e⟩
theorem fd_nneg {v : Int32} {a : Nat} (h : v < 0) (ha : a < 2 ^ 31) : ¬ v = nI a := fun e => nI_pos ha (e ▸ h)
theorem fd_ngt {v : Int32} {a b : Nat} (h : nI b ≤ v) (hab : a < b) (hb : b < 2 ^ 31) : ¬ v = nI a := by
  intro e
  rw [e, nI_leI hb (by omega)] at h
  omega
theorem fd_nlt0 {v : Int32} {b : Nat} (h : nI b ≤ v) (hb : b < 2 ^ 31) : ¬ v < 0 := by
  intro z
  have h1 := Int32.le_iff_toInt_le.mp h
  have h2 := Int32.lt_iff_toInt_lt.mp z
  rw [nI_toInt hb] at h1
  rw [show (0 : Int32).toInt = 0 from by decide] at h2
  omega
theorem fd_nle {v : Int32} {a b : Nat} (e : v = nI a) (hab : a < b) (hb : b < 2 ^ 31) : ¬ nI b ≤ v := by
  rw [e]
  exact nI_ge hab hb
theorem xc_isLit {post : Int32 → Prop} (hn : n ≤ 5) (v : Int32) (h1 : fd_isl n v → post 1) (h0 : ¬ fd_isl n v → post 0) : wpX_isLiteral post (nI n, nI c, nI l, aL, aR, aC, aY, aN, aD, aE, aP, aQ, aB) v := by
  have e : (2 : Int32) * (5 + nI n) = nI (10 + 2 * n) := by
    show nI 2 * (nI 5 + nI n) = _
    rw [nI_add, pk_mul]
    exact congrArg nI (by omega)
  rcases pk_ix v (n := 10 + 2 * n) (by omega) with z | z | ⟨j, hj, z⟩
  · exact br_t z (h0 (fun ⟨a, ha, e⟩ => fd_nneg z (by omega) e))
  · refine br_f (fd_nlt0 z (by omega)) ?_
    show ((2 : Int32) * (5 + nI n) ≤ v → post 0) ∧ (¬ (2 : Int32) * (5 + nI n) ≤ v → post 1)
    rw [e]
    exact br_t z (h0 (fun ⟨a, ha, e⟩ => fd_ngt z ha (by omega) e))
  · refine br_f (by rw [z]; exact nI_pos (by omega)) ?_
    show ((2 : Int32) * (5 + nI n) ≤ v → post 0) ∧ (¬ (2 : Int32) * (5 + nI n) ≤ v → post 1)
    rw [e]
    exact br_f (fd_nle z hj (by omega)) (h1 ⟨j, hj, z⟩)
theorem xc_may {post : Int32 → Prop} (hn : n ≤ 5) (v : Int32) (h1 : fd_may n v → post 1) (h0 : ¬ fd_may n v → post 0) : wpX_mayBeGiven post (nI n, nI c, nI l, aL, aR, aC, aY, aN, aD, aE, aP, aQ, aB) v := by
  refine br_c (fun z => h1 (Or.inl z)) (fun z => ?_)
  exact xc_isLit hn v (fun q => br_f (by decide) (h1 (Or.inr q))) (fun q => br_t rfl (h0 (fun q' => q'.elim z q)))
theorem xc_two {post : Int32 → Prop} (v1 v2 : Int32) (h1 : fd_var v1 ∧ fd_var v2 ∧ ¬ v1 = v2 → post 1) (h0 : ¬ (fd_var v1 ∧ fd_var v2 ∧ ¬ v1 = v2) → post 0) : wpX_areTwoVariables post (nI n, nI c, nI l, aL, aR, aC, aY, aN, aD, aE, aP, aQ, aB) v1 v2 := by
  rcases pk_ix v1 (n := 5) (by omega) with z | z | ⟨i, hi, z⟩
  · exact br_t z (h0 (fun ⟨⟨a, ha, e⟩, _⟩ => fd_nneg z (by omega) e))
  · exact br_f (fd_nlt0 z (by omega)) (br_t z (h0 (fun ⟨⟨a, ha, e⟩, _⟩ => fd_ngt z ha (by omega) e)))
  · refine br_f (by rw [z]; exact nI_pos (by omega)) (br_f (fd_nle (b := 5) z hi (by decide)) ?_)
    rcases pk_ix v2 (n := 5) (by omega) with y | y | ⟨j, hj, y⟩
    · exact br_t y (h0 (fun ⟨_, ⟨a, ha, e⟩, _⟩ => fd_nneg y (by omega) e))
    · exact br_f (fd_nlt0 y (by omega)) (br_t y (h0 (fun ⟨_, ⟨a, ha, e⟩, _⟩ => fd_ngt y ha (by omega) e)))
    · exact br_f (by rw [y]; exact nI_pos (by omega)) (br_f (fd_nle (b := 5) y hj (by decide)) (br_c (fun q => h0 (fun ⟨_, _, q'⟩ => q' q)) (fun q => h1 ⟨⟨i, hi, z⟩, ⟨j, hj, y⟩, q⟩)))
theorem xc_yes {post : Int32 → Prop} {v : Int32} (hv : fd_lt v) (h : post (fd_yb v)) : wpX_yesBit post (nI n, nI c, nI l, aL, aR, aC, aY, aN, aD, aE, aP, aQ, aB) v := by
  rcases hv with rfl | ⟨a, ha, rfl⟩
  · exact br_t (by decide) h
  · rw [fd_ybN ha] at h
    refine br_f (nI_pos (by omega)) ⟨by decide, ?_⟩
    rw [fd_odd ha, fd_half ha, fd_1l (by omega)]
    refine pk_eq (a % 2) 0 (fun e => ⟨by decide, ?_⟩) (fun e => ?_)
    · rw [if_pos e] at h
      exact h
    · rw [if_neg e] at h
      exact h
theorem xc_no {post : Int32 → Prop} {v : Int32} (hv : fd_lt v) (h : post (fd_nb v)) : wpX_noBit post (nI n, nI c, nI l, aL, aR, aC, aY, aN, aD, aE, aP, aQ, aB) v := by
  rcases hv with rfl | ⟨a, ha, rfl⟩
  · exact br_t (by decide) h
  · rw [fd_nbN ha] at h
    refine br_f (nI_pos (by omega)) ⟨by decide, ?_⟩
    rw [fd_odd ha, fd_half ha, fd_1l (by omega)]
    refine pk_eq (a % 2) 1 (fun e => ⟨by decide, ?_⟩) (fun e => ?_)
    · rw [if_neg (by omega)] at h
      exact h
    · rw [if_pos (by omega)] at h
      exact h
def fd_cr (aY aN aT : Nat → Int32) (k : Nat) : Prop := ∀ p, p < 1024 → ((nI p &&& aY k = 0 ∧ (nI p ^^^ (-1)) &&& aN k = 0) ↔ fd_c1 aT p k = false)
def fd_BX (n c : Nat) (aL aR aC aT aY aN : Nat → Int32) : Prop := fd_D n aL aR aC ∧ c ≤ 24 ∧ ∀ k, k < c → fd_cr aY aN aT k
theorem xc_cls {post : Int32 → Prop} (hX : fd_BX n c aL aR aC aT aY aN) {p : Nat} (hp : p < 1024) (h : post (fd_b (fd_al (fd_c1 aT p) c 0))) : wpX_allClausesHold post (nI n, nI c, nI l, aL, aR, aC, aY, aN, aD, aE, aP, aQ, aB) (nI p) := by
  obtain ⟨_, hc, hcr⟩ := hX
  rw [fd_alx] at h
  have key := fd_look (fun N i => wX_allClausesHold_2 post (nI p) (nI n) (nI c) (nI l) aL aR aC aY aN aD aE aP aQ aB N (nI i)) (fun k => !(fd_c1 aT p k)) c (post 0) (post 1) ?_ ?_ ?_ c 0 (by omega) ?_ ?_
  · exact ⟨c + 1, key⟩
  · intro N hp
    exact pk_le c c (fun _ => hp) (fun z => by omega)
  · intro N i hi hq hp'
    have ec : (nI i).toNatClampNeg = i := nI_clamp (by omega)
    have hin : vp_in (nI i) 24 := vp_in_nI (by omega) (by omega)
    rw [Bool.not_eq_true'] at hq
    have hh := (hcr i hi p hp).2 hq
    refine pk_le c i (fun z => by omega) (fun _ => ⟨hin, ?_⟩)
    rw [ec]
    exact br_t hh.1 ⟨hin, br_t hh.2 hp'⟩
  · intro N i hi hq hp'
    have ec : (nI i).toNatClampNeg = i := nI_clamp (by omega)
    have hin : vp_in (nI i) 24 := vp_in_nI (by omega) (by omega)
    rw [Bool.not_eq_false'] at hq
    have hh : ¬ (nI p &&& aY i = 0 ∧ (nI p ^^^ (-1)) &&& aN i = 0) := fun q => by
      have := (hcr i hi p hp).1 q
      rw [hq] at this
      exact nomatch this
    refine pk_le c i (fun z => by omega) (fun _ => ⟨hin, ?_⟩)
    rw [ec]
    refine br_c (fun q => ⟨hin, br_f (fun q' => hh ⟨q, q'⟩) (nm_r (nI_1 i) hp')⟩) (fun q => nm_r (nI_1 i) hp')
  · intro e
    rw [e] at h
    exact h
  · intro e
    rw [e] at h
    exact h
theorem fd_pat : ∀ ch, ch < 32 → ∀ t, t < 32 → (nI ch <<< ((5 : Int32) &&& 31)) ||| nI t = nI (32 * ch + t) := by decide +kernel
theorem fd_nar0 : vp_nar .boolean 0 = 0 := by first | rfl | decide
theorem fd_nar1 : vp_nar .boolean 1 = 1 := by first | rfl | decide
theorem fd_2n {n : Nat} (hn : n ≤ 5) : 1 ≤ 2 ^ n ∧ 2 ^ n ≤ 32 := ⟨Nat.one_le_two_pow, Nat.pow_le_pow_right (n := 2) (by decide) hn⟩
theorem xc_dpc {post : Int32 → Prop} (hn : n ≤ 5) (h : post (nI (2 ^ n))) : wpX_differencePatternCount post (nI n, nI c, nI l, aL, aR, aC, aY, aN, aD, aE, aP, aQ, aB) := by
  show post ((1 : Int32) <<< (nI n &&& 31))
  rw [fd_1l (by omega)]
  exact h
theorem xc_ac {post : Int32 → Prop} (h : post (nI (5 + n))) : wpX_atomCount post (nI n, nI c, nI l, aL, aR, aC, aY, aN, aD, aE, aP, aQ, aB) := by
  show post (nI 5 + nI n)
  rw [nI_add]
  exact h
theorem xc_pc {post : Int32 → Prop} (hn : n ≤ 5) (h : post (nI (32 * 2 ^ n))) : wpX_patternCount post (nI n, nI c, nI l, aL, aR, aC, aY, aN, aD, aE, aP, aQ, aB) := by
  unfold wpX_patternCount
  dsimp only
  refine xc_ac ?_
  rw [fd_1l (by omega), Nat.pow_add]
  exact h
theorem xc_mark {post : SX → Prop} (hX : fd_BX n c aL aR aC aT aY aN) (h : ∀ q b : Nat → Int32, (∀ p, p < 32 * 2 ^ n → q p = fd_b (fd_ps aL aR aC aT n c p)) → post (nI n, nI c, nI l, aL, aR, aC, aY, aN, aD, aE, aP, q, b)) : wpX_markPossible post (nI n, nI c, nI l, aL, aR, aC, aY, aN, aD, aE, aP, aQ, aB) := by
  have hn := hX.1.1
  have h2 := fd_2n hn
  unfold wpX_markPossible
  dsimp only
  refine xc_dpc hn ?_
  refine loop_0 (fun N ch (s : (Nat → Int32) × (Nat → Int32)) => wX_markPossible_7 post (nI (2 ^ n)) N (nI ch) (nI n) (nI c) (nI l) aL aR aC aY aN aD aE aP s.1 s.2) (fun ch s => ∀ p, p < 32 * ch → s.1 p = fd_b (fd_ps aL aR aC aT n c p)) (2 ^ n) (aQ, aB) (fun p hp => by omega) ?_ ?_
  · intro N s hs
    exact pk_le (2 ^ n) (2 ^ n) (fun _ => h s.1 s.2 hs) (fun z => by omega)
  · intro N ch s hch hs next
    refine pk_le (2 ^ n) ch (fun z => by omega) (fun _ => xc_tighten hX.1 ch (fun b hb => ?_))
    refine loop_0 (fun M t (q : Nat → Int32) => wX_markPossible_21 post (wX_markPossible_7 post (nI (2 ^ n)) N) (nI (2 ^ n)) (nI ch) (fd_b (fd_rs aL aR aC n ch).isSome) (nI n) (nI c) (nI l) M (nI t) aL aR aC aY aN aD aE aP q b) (fun t q => ∀ p, p < 32 * ch + t → q p = fd_b (fd_ps aL aR aC aT n c p)) 32 s.1 hs ?_ ?_
    · intro M q hq
      exact pk_le 32 32 (fun _ => nm_r (nI_1 ch) (next (q, b) (fun p hp => hq p (by omega)))) (fun z => by omega)
    · intro M t q ht hq next'
      have put : ∀ v : Int32, v = fd_b (fd_ps aL aR aC aT n c (32 * ch + t)) → ∀ p, p < 32 * ch + (t + 1) → upd q (32 * ch + t) v p = fd_b (fd_ps aL aR aC aT n c p) := by
        intro v hv p hp
        by_cases e : p = 32 * ch + t
        · rw [e, pk_us]
          exact hv
        · rw [pk_un e]
          exact hq p (by omega)
      have eps : fd_ps aL aR aC aT n c (32 * ch + t) = ((fd_rs aL aR aC n ch).isSome && fd_al (fd_c1 aT (32 * ch + t)) c 0) := by
        unfold fd_ps
        rw [show (32 * ch + t) / 32 = ch from by omega]
      have hin : vp_in (nI (32 * ch + t)) 1024 := vp_in_nI (by omega) (by omega)
      have ec : (nI (32 * ch + t)).toNatClampNeg = 32 * ch + t := nI_clamp (by omega)
      have e0 : upd q (nI (32 * ch + t)).toNatClampNeg (vp_nar .boolean 0) = upd q (32 * ch + t) 0 := by rw [ec, fd_nar0]
      have e1 : upd q (nI (32 * ch + t)).toNatClampNeg (vp_nar .boolean 1) = upd q (32 * ch + t) 1 := by rw [ec, fd_nar1]
      refine pk_le 32 t (fun z => by omega) (fun _ => nm_r (fd_pat ch (by omega) t ht) ?_)
      cases er : (fd_rs aL aR aC n ch).isSome with
      | false =>
        rw [er] at eps
        refine br_t rfl ⟨hin, nm_r e0 (nm_r (nI_1 t) ?_)⟩
        have := next' _ (put 0 (by rw [eps]; rfl))
        rw [er] at this
        exact this
      | true =>
        rw [er, Bool.true_and] at eps
        refine br_f (by decide) (xc_cls hX (p := 32 * ch + t) (by omega) ?_)
        cases ea : fd_al (fd_c1 aT (32 * ch + t)) c 0 with
        | false =>
          rw [ea] at eps
          refine br_t rfl ⟨hin, nm_r e0 (nm_r (nI_1 t) ?_)⟩
          have := next' _ (put 0 (by rw [eps]; rfl))
          rw [er] at this
          exact this
        | true =>
          rw [ea] at eps
          refine br_f (by decide) ⟨hin, nm_r e1 (nm_r (nI_1 t) ?_)⟩
          have := next' _ (put 1 (by rw [eps]; rfl))
          rw [er] at this
          exact this
end
