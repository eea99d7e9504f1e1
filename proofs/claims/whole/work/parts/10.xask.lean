/-! the component: its questions -/
section
variable {n c l : Nat} {aL aR aC aY aN aD aE aP aQ aB aT : Nat → Int32}
theorem fd_bn0 {b : Bool} (h : b = false) : fd_b b = 0 := by rw [h]; rfl
theorem fd_bn1 {b : Bool} (h : b = true) : ¬ fd_b b = 0 := by rw [h]; decide
theorem fd_fa {b : Bool} (h : ¬ b = true) : b = false := Bool.eq_false_iff.mpr h
theorem xc_has {post : Int32 → SX → Prop} (hX : fd_BX n c aL aR aC aT aY aN) (y z : Int32) (q : Nat → Bool) (hq : ∀ p, p < 32 * 2 ^ n → (q p = true ↔ (fd_ps aL aR aC aT n c p = true ∧ nI p &&& y = y ∧ nI p &&& z = 0))) (h : ∀ qq b : Nat → Int32, post (fd_b (fd_ex q (32 * 2 ^ n) 0)) (nI n, nI c, nI l, aL, aR, aC, aY, aN, aD, aE, aP, qq, b)) : wpX_hasModelWith post (nI n, nI c, nI l, aL, aR, aC, aY, aN, aD, aE, aP, aQ, aB) y z := by
  have hn := hX.1.1
  have h2 := fd_2n hn
  unfold wpX_hasModelWith
  dsimp only
  refine xc_mark hX (fun qq b hqq => ?_)
  dsimp only
  refine xc_pc hn ?_
  have key := fd_look (fun N i => wX_hasModelWith_12 post y z (nI (32 * 2 ^ n)) (nI n) (nI c) (nI l) aL aR aC aY aN aD aE aP qq b N (nI i)) q (32 * 2 ^ n) (post 1 (nI n, nI c, nI l, aL, aR, aC, aY, aN, aD, aE, aP, qq, b)) (post 0 (nI n, nI c, nI l, aL, aR, aC, aY, aN, aD, aE, aP, qq, b)) ?_ ?_ ?_ (32 * 2 ^ n) 0 (by omega) ?_ ?_
  · exact ⟨_, key⟩
  · intro N hp
    exact pk_le (32 * 2 ^ n) (32 * 2 ^ n) (fun _ => hp) (fun z => by omega)
  · intro N i hi hqi hp
    obtain ⟨h1, h3, h4⟩ := (hq i hi).1 hqi
    refine pk_le (32 * 2 ^ n) i (fun z => by omega) (fun _ => ⟨vp_in_nI (by omega) (by omega), ?_⟩)
    rw [nI_clamp (by omega), hqq i hi]
    exact br_f (fd_bn1 h1) (br_t h3 (br_t h4 hp))
  · intro N i hi hqi hp
    refine pk_le (32 * 2 ^ n) i (fun z => by omega) (fun _ => ⟨vp_in_nI (by omega) (by omega), ?_⟩)
    rw [nI_clamp (by omega), hqq i hi]
    cases e : fd_ps aL aR aC aT n c i with
    | false => exact br_t rfl (nm_r (nI_1 i) hp)
    | true =>
      refine br_f (by decide) (br_c (fun z1 => br_c (fun z2 => ?_) (fun _ => nm_r (nI_1 i) hp)) (fun _ => nm_r (nI_1 i) hp))
      rw [(hq i hi).2 ⟨e, z1, z2⟩] at hqi
      exact nomatch hqi
  · intro e
    have := h qq b
    rw [e] at this
    exact this
  · intro e
    have := h qq b
    rw [e] at this
    exact this
theorem fd_ctS {pr : Nat → Int32} (hpr : fd_pr pr) (p a k : Nat) (hk : k = if p.testBit a = true then 2 * a else 2 * a + 1) : ∃ m : Nat, m ≤ 1000 ∧ pr k = nI m ∧ fd_ct pr p (a + 1) = fd_ct pr p a + m := by
  obtain ⟨m, hm, e⟩ := hpr k
  refine ⟨m, hm, e, ?_⟩
  show fd_ct pr p a + (pr (if p.testBit a = true then 2 * a else 2 * a + 1)).toNatClampNeg = _
  rw [← hk, e, nI_clamp (by omega)]
theorem xc_cost {post : Int64 → Prop} (hn : n ≤ 5) (hpr : fd_pr aP) {p : Nat} (h : post (lN (fd_ct aP p (5 + n)))) : wpX_costOf post (nI n, nI c, nI l, aL, aR, aC, aY, aN, aD, aE, aP, aQ, aB) (nI p) := by
  unfold wpX_costOf
  dsimp only
  refine xc_ac ?_
  refine loop_0 (fun N a (s : Int64) => wX_costOf_10 post (nI p) (nI (5 + n)) (nI n) (nI c) (nI l) aL aR aC aY aN aD aE aP aQ aB N s (nI a)) (fun a s => s = lN (fd_ct aP p a)) (5 + n) 0 rfl ?_ ?_
  · intro N s hs
    refine pk_le (5 + n) (5 + n) (fun _ => ?_) (fun z => by omega)
    rw [hs]
    exact h
  · intro N a s ha hs next
    refine pk_le (5 + n) a (fun z => by omega) (fun _ => ?_)
    rw [fd_bitN p (by omega)]
    have e2 : (2 : Int32) * nI a = nI (2 * a) := pk_mul 2 a
    have e3 : (2 : Int32) * nI a + 1 = nI (2 * a + 1) := by rw [e2, nI_1]
    by_cases t : p.testBit a = true
    · rw [if_pos t]
      obtain ⟨m, hm, em, ec⟩ := fd_ctS hpr p a (2 * a) (by rw [if_pos t])
      refine br_t rfl (br_f (by decide) ?_)
      rw [e2]
      refine ⟨vp_in_nI (by omega) (by omega), nm_r (e' := lN (fd_ct aP p (a + 1))) ?_ (nm_r (nI_1 a) (next _ rfl))⟩
      rw [nI_clamp (by omega), em, nI_l (by omega), hs, lN_add, ec]
    · rw [if_neg t]
      obtain ⟨m, hm, em, ec⟩ := fd_ctS hpr p a (2 * a + 1) (by rw [if_neg t])
      refine br_f (by decide) (br_t rfl ?_)
      rw [e3]
      refine ⟨vp_in_nI (by omega) (by omega), nm_r (e' := lN (fd_ct aP p (a + 1))) ?_ (nm_r (nI_1 a) (next _ rfl))⟩
      rw [nI_clamp (by omega), em, nI_l (by omega), hs, lN_add, ec]
theorem xc_least {post : Int64 → Prop} (hn : n ≤ 5) (hpr : fd_pr aP) (ps : Nat → Bool) (hqq : ∀ p, p < 32 * 2 ^ n → aQ p = fd_b (ps p)) (h : post (fd_lo (fd_mn ps (fun p => fd_ct aP p (5 + n))) (32 * 2 ^ n) 0 3000000000)) : wpX_leastCost post (nI n, nI c, nI l, aL, aR, aC, aY, aN, aD, aE, aP, aQ, aB) := by
  have h2 := fd_2n hn
  unfold wpX_leastCost
  dsimp only
  refine xc_pc hn ?_
  have key := fd_run (fun N i (s : Int64) => wX_leastCost_12 post (nI (32 * 2 ^ n)) (nI n) (nI c) (nI l) aL aR aC aY aN aD aE aP aQ aB N s (nI i)) (fd_mn ps (fun p => fd_ct aP p (5 + n))) (fun _ _ => True) (32 * 2 ^ n) post (fun _ _ _ _ => trivial) ?_ ?_ (32 * 2 ^ n) 0 3000000000 (by omega) trivial h
  · exact ⟨_, key⟩
  · intro N s _ hp
    exact pk_le (32 * 2 ^ n) (32 * 2 ^ n) (fun _ => hp) (fun z => by omega)
  · intro N i s hi _ hp
    refine pk_le (32 * 2 ^ n) i (fun z => by omega) (fun _ => ⟨vp_in_nI (by omega) (by omega), ?_⟩)
    rw [nI_clamp (by omega), hqq i hi]
    unfold fd_mn at hp
    cases e : ps i with
    | false =>
      rw [e, if_neg (fun z => nomatch z.1)] at hp
      exact br_t rfl (nm_r (nI_1 i) hp)
    | true =>
      rw [e] at hp
      refine br_f (by decide) (xc_cost hn hpr (br_c (fun z => ?_) (fun z => ?_)))
      · rw [if_neg (fun y => Int64.not_lt.mpr z y.2)] at hp
        exact nm_r (nI_1 i) hp
      · rw [if_pos ⟨rfl, Int64.not_le.mp z⟩] at hp
        exact nm_r (nI_1 i) hp
theorem fd_fsF {q : Nat → Bool} {i : Nat} {s : Int32} (h : ¬ (q i = true ∧ (s = -1 ∨ fd_bf i s))) : fd_fs q i s = s := by
  unfold fd_fs
  exact if_neg h
theorem fd_fsT {q : Nat → Bool} {i : Nat} {s : Int32} (h : q i = true ∧ (s = -1 ∨ fd_bf i s)) : fd_fs q i s = nI i := by
  unfold fd_fs
  exact if_pos h
theorem xc_first {post : Int32 → Prop} (hn : n ≤ 5) (hpr : fd_pr aP) (ps q : Nat → Bool) (most : Int64) (hqq : ∀ p, p < 32 * 2 ^ n → aQ p = fd_b (ps p)) (hq : ∀ p, p < 32 * 2 ^ n → (q p = true ↔ (ps p = true ∧ ¬ most < lN (fd_ct aP p (5 + n))))) (h : post (fd_lo (fd_fs q) (32 * 2 ^ n) 0 (-1))) : wpX_firstThatCostsAtMost post (nI n, nI c, nI l, aL, aR, aC, aY, aN, aD, aE, aP, aQ, aB) most := by
  have h2 := fd_2n hn
  unfold wpX_firstThatCostsAtMost
  dsimp only
  refine xc_pc hn ?_
  have key := fd_run (fun N i (s : Int32) => wX_firstThatCostsAtMost_11 post most (nI (32 * 2 ^ n)) (nI n) (nI c) (nI l) aL aR aC aY aN aD aE aP aQ aB N s (nI i)) (fd_fs q) (fun _ _ => True) (32 * 2 ^ n) post (fun _ _ _ _ => trivial) ?_ ?_ (32 * 2 ^ n) 0 (-1) (by omega) trivial h
  · exact ⟨_, key⟩
  · intro N s _ hp
    exact pk_le (32 * 2 ^ n) (32 * 2 ^ n) (fun _ => hp) (fun z => by omega)
  · intro N i s hi _ hp
    refine pk_le (32 * 2 ^ n) i (fun z => by omega) (fun _ => ⟨vp_in_nI (by omega) (by omega), ?_⟩)
    rw [nI_clamp (by omega), hqq i hi]
    cases e : ps i with
    | false =>
      rw [fd_fsF (fun z => by have := ((hq i hi).1 z.1).1; rw [e] at this; exact nomatch this)] at hp
      exact br_t rfl (nm_r (nI_1 i) hp)
    | true =>
      refine br_f (by decide) (xc_cost hn hpr (br_c (fun z => ?_) (fun z => ?_)))
      · rw [fd_fsF (fun y => ((hq i hi).1 y.1).2 z)] at hp
        exact nm_r (nI_1 i) hp
      · have qt : q i = true := (hq i hi).2 ⟨e, z⟩
        refine br_c (fun y => ?_) (fun y => ?_)
        · rw [fd_fsT ⟨qt, Or.inl y⟩] at hp
          exact nm_r (nI_1 i) hp
        · refine nm_e (nm_e (br_c (fun x => br_f (by decide) ?_) (fun x => br_t rfl ?_)))
          · rw [fd_fsT ⟨qt, Or.inr x⟩] at hp
            exact nm_r (nI_1 i) hp
          · rw [fd_fsF (fun v => v.2.elim y x)] at hp
            exact nm_r (nI_1 i) hp
theorem xc_patterns {post : Int32 → SX → Prop} (hX : fd_BX n c aL aR aC aT aY aN) (h : ∀ qq b : Nat → Int32, post (fd_lo (fd_cn (fd_ps aL aR aC aT n c)) (32 * 2 ^ n) 0 0) (nI n, nI c, nI l, aL, aR, aC, aY, aN, aD, aE, aP, qq, b)) : wpX_patterns post (nI n, nI c, nI l, aL, aR, aC, aY, aN, aD, aE, aP, aQ, aB) := by
  have hn := hX.1.1
  have h2 := fd_2n hn
  unfold wpX_patterns
  dsimp only
  refine xc_mark hX (fun qq b hqq => ?_)
  dsimp only
  refine xc_pc hn ?_
  have key := fd_run (fun N i (s : Int32) => wX_patterns_13 post (nI (32 * 2 ^ n)) (nI n) (nI c) (nI l) aL aR aC aY aN aD aE aP qq b N s (nI i)) (fd_cn (fd_ps aL aR aC aT n c)) (fun _ _ => True) (32 * 2 ^ n) (fun r => post r (nI n, nI c, nI l, aL, aR, aC, aY, aN, aD, aE, aP, qq, b)) (fun _ _ _ _ => trivial) ?_ ?_ (32 * 2 ^ n) 0 0 (by omega) trivial (h qq b)
  · exact ⟨_, key⟩
  · intro N s _ hp
    exact pk_le (32 * 2 ^ n) (32 * 2 ^ n) (fun _ => hp) (fun z => by omega)
  · intro N i s hi _ hp
    refine pk_le (32 * 2 ^ n) i (fun z => by omega) (fun _ => ⟨vp_in_nI (by omega) (by omega), ?_⟩)
    rw [nI_clamp (by omega), hqq i hi]
    unfold fd_cn at hp
    cases e : fd_ps aL aR aC aT n c i with
    | false =>
      rw [e, if_neg (fun z => nomatch z)] at hp
      exact br_t rfl (nm_r (nI_1 i) hp)
    | true =>
      rw [e, if_pos rfl] at hp
      exact br_f (by decide) (nm_e (nm_r (nI_1 i) hp))
theorem xc_bits {post : Int32 → Prop} (x : Int32) (h : post (nI (fd_cb (bt x) 10))) : wpX_bitsIn post (nI n, nI c, nI l, aL, aR, aC, aY, aN, aD, aE, aP, aQ, aB) x := by
  unfold wpX_bitsIn
  dsimp only
  refine loop_0 (fun N a (s : Int32) => wX_bitsIn_4 post x (nI n) (nI c) (nI l) aL aR aC aY aN aD aE aP aQ aB N s (nI a)) (fun a s => s = nI (fd_cb (bt x) a)) 10 0 rfl ?_ ?_
  · intro N s hs
    refine pk_le 10 10 (fun _ => ?_) (fun z => by omega)
    rw [hs]
    exact h
  · intro N a s ha hs next
    refine pk_le 10 a (fun z => by omega) (fun _ => nm_r (e' := nI (fd_cb (bt x) (a + 1))) ?_ (nm_r (nI_1 a) (next _ rfl)))
    rw [fd_bit x (by omega), hs]
    show _ = nI (fd_cb (bt x) a + (if bt x a = true then 1 else 0))
    by_cases t : bt x a = true
    · rw [if_pos t, if_pos t, nI_1]
    · rw [if_neg t, if_neg t, Int32.add_zero, Nat.add_zero]
theorem xc_settled {post : Int32 → SX → Prop} (hX : fd_BX n c aL aR aC aT aY aN) (h : ∀ (qq b : Nat → Int32) (ay an f : Int32), fd_sX (fd_ps aL aR aC aT n c) (5 + n) (32 * 2 ^ n) ay an f → post (if f = 0 then 0 else nI (fd_cb (bt (ay ||| an)) 10)) (nI n, nI c, nI l, aL, aR, aC, aY, aN, aD, aE, aP, qq, b)) : wpX_settled post (nI n, nI c, nI l, aL, aR, aC, aY, aN, aD, aE, aP, aQ, aB) := by
  have hn := hX.1.1
  have h2 := fd_2n hn
  unfold wpX_settled
  dsimp only
  refine xc_mark hX (fun qq b hqq => ?_)
  dsimp only
  refine xc_pc hn ?_
  have e1 : nI (32 * 2 ^ n) - 1 = nI (2 ^ (5 + n) - 1) := by
    show _ - nI 1 = _
    rw [pk_sub (by omega), Nat.pow_add]
  refine nm_r e1 (nm_r e1 ?_)
  refine loop_0 (fun N i (s : Int32 × Int32 × Int32) => wX_settled_23 post (nI (32 * 2 ^ n)) (nI n) (nI c) (nI l) aL aR aC aY aN aD aE aP qq b N s.1 s.2.1 s.2.2 (nI i)) (fun i s => fd_sX (fd_ps aL aR aC aT n c) (5 + n) i s.1 s.2.1 s.2.2) (32 * 2 ^ n) (nI (2 ^ (5 + n) - 1), nI (2 ^ (5 + n) - 1), 0) fd_sX0 ?_ ?_
  · rintro N ⟨ay, an, f⟩ hs
    have := h qq b ay an f hs
    refine pk_le (32 * 2 ^ n) (32 * 2 ^ n) (fun _ => br_c (fun z => ?_) (fun z => ?_)) (fun z => by omega)
    · have z' : f = 0 := z
      rw [if_pos z'] at this
      exact this
    · have z' : ¬ f = 0 := z
      rw [if_neg z'] at this
      exact xc_bits _ this
  · rintro N i ⟨ay, an, f⟩ hi hs next
    refine pk_le (32 * 2 ^ n) i (fun z => by omega) (fun _ => ⟨vp_in_nI (by omega) (by omega), ?_⟩)
    rw [nI_clamp (by omega), hqq i hi]
    cases e : fd_ps aL aR aC aT n c i with
    | false => exact br_t rfl (nm_r (nI_1 i) (next (ay, an, f) (fd_sXf hs e)))
    | true => exact br_f (by decide) (nm_e (nm_e (nm_r (nI_1 i) (next (ay &&& nI i, an &&& (nI i ^^^ (-1)), 1) (fd_sXt hs e)))))
theorem xc_some {post : Int32 → Prop} {ch : Nat} (hch : ch < 32) (ps : Nat → Bool) (hqq : ∀ t, t < 32 → aQ (32 * ch + t) = fd_b (ps (32 * ch + t))) (h1 : (∃ p, 32 * ch ≤ p ∧ p < 32 * (ch + 1) ∧ ps p = true) → post 1) (h0 : (∀ p, 32 * ch ≤ p → p < 32 * (ch + 1) → ps p = false) → post 0) : wpX_isPossibleWithSomeTruths post (nI n, nI c, nI l, aL, aR, aC, aY, aN, aD, aE, aP, aQ, aB) (nI ch) := by
  unfold wpX_isPossibleWithSomeTruths
  dsimp only
  have key := fd_look (fun N i => wX_isPossibleWithSomeTruths_2 post (nI ch) (nI n) (nI c) (nI l) aL aR aC aY aN aD aE aP aQ aB N (nI i)) (fun t => ps (32 * ch + t)) 32 (post 1) (post 0) ?_ ?_ ?_ 32 0 rfl ?_ ?_
  · exact ⟨_, key⟩
  · intro N hp
    exact pk_le 32 32 (fun _ => hp) (fun z => by omega)
  · intro N i hi hq hp
    refine pk_le 32 i (fun z => by omega) (fun _ => ?_)
    rw [fd_pat ch hch i hi, nI_clamp (by omega), hqq i hi]
    exact ⟨vp_in_nI (by omega) (by omega), br_f (fd_bn1 hq) hp⟩
  · intro N i hi hq hp
    refine pk_le 32 i (fun z => by omega) (fun _ => ?_)
    rw [fd_pat ch hch i hi, nI_clamp (by omega), hqq i hi]
    exact ⟨vp_in_nI (by omega) (by omega), br_t (fd_bn0 hq) (nm_r (nI_1 i) hp)⟩
  · intro e
    obtain ⟨t, _, ht, hq⟩ := (fd_exI 32 0).1 e
    exact h1 ⟨32 * ch + t, by omega, by omega, hq⟩
  · intro e
    refine h0 (fun p hp1 hp2 => fd_fa (fun z => ?_))
    have := (fd_exI (q := fun t => ps (32 * ch + t)) 32 0).2 ⟨p - 32 * ch, by omega, by omega, by
      show ps (32 * ch + (p - 32 * ch)) = true
      rw [show 32 * ch + (p - 32 * ch) = p from by omega]
      exact z⟩
    rw [e] at this
    exact nomatch this
theorem fd_psS {p : Nat} (h : fd_ps aL aR aC aT n c p = true) : ∃ P, fd_rs aL aR aC n (p / 32) = some P := by
  unfold fd_ps at h
  rw [Bool.and_eq_true] at h
  exact Option.isSome_iff_exists.mp h.1
theorem fd_vlS {P : Nat → Nat → Int} {i j p : Nat} (h : fd_rs aL aR aC n (p / 32) = some P) : fd_vl aL aR aC n i j p = P i j := by
  unfold fd_vl
  rw [h]
theorem fd_gB {v : Int32} : v.toInt < 2147483648 := by
  have := Int32.toInt_lt v
  omega
/-- the step of greatest, either side: v is the cell -/
theorem fd_gStep {ps : Nat → Bool} {vl : Nat → Int} {q q' : Nat} {best : Int64} (h : fd_gI ps vl q best) (hq : q ≤ q') (x : Int) (v : Int32) (hxv : x ≠ 1000000000) (ev : v.toInt = x) (hv : ∀ p, q ≤ p → p < q' → vl p = x) (hs : ∃ p, q ≤ p ∧ p < q' ∧ ps p = true) :
    (best = 3000000000 → fd_gI ps vl q' v.toInt64) ∧ (¬ best = 3000000000 → (v.toInt64 ≤ best → fd_gI ps vl q' best) ∧ (¬ v.toInt64 ≤ best → fd_gI ps vl q' v.toInt64)) := by
  have et : v.toInt64.toInt = x := by rw [Int32.toInt_toInt64]; exact ev
  have hb : x < 2147483648 := by rw [← ev]; exact fd_gB
  refine ⟨fun z => ?_, fun z => ⟨fun y => ?_, fun y => ?_⟩⟩
  · exact fd_gS h hq x hv hs hxv _ hb (fun _ => et) (fun z' => (z' z).elim)
  · rw [Int64.le_iff_toInt_le, et] at y
    exact fd_gS h hq x hv hs hxv _ hb (fun w => (w.elim (fun w => (z w).elim) (fun w => by omega))) (fun _ _ => rfl)
  · rw [Int64.le_iff_toInt_le, et] at y
    exact fd_gS h hq x hv hs hxv _ hb (fun _ => et) (fun _ w => by omega)
theorem xc_greatest {post : Int64 → SX → Prop} (hX : fd_BX n c aL aR aC aT aY aN) {i j : Nat} (hi : i < 5) (hj : j < 5) (hij : ¬ nI i = nI j) (h : ∀ (qq b : Nat → Int32) (r : Int64), fd_gR (fd_ps aL aR aC aT n c) (fd_vl aL aR aC n i j) (32 * 2 ^ n) r → post r (nI n, nI c, nI l, aL, aR, aC, aY, aN, aD, aE, aP, qq, b)) : wpX_greatest post (nI n, nI c, nI l, aL, aR, aC, aY, aN, aD, aE, aP, aQ, aB) (nI i) (nI j) := by
  have hn := hX.1.1
  have h2 := fd_2n hn
  unfold wpX_greatest
  dsimp only
  refine xc_two (nI i) (nI j) (fun _ => br_f (by decide) ?_) (fun z => (z ⟨⟨i, hi, rfl⟩, ⟨j, hj, rfl⟩, hij⟩).elim)
  refine xc_mark hX (fun qq b0 hqq => ?_)
  dsimp only
  refine xc_dpc hn ?_
  refine loop_0 (fun N ch (s : Int64 × (Nat → Int32)) => wX_greatest_30 post (nI i) (nI j) (nI (2 ^ n)) N s.1 (nI ch) (nI n) (nI c) (nI l) aL aR aC aY aN aD aE aP qq s.2) (fun ch s => fd_gI (fd_ps aL aR aC aT n c) (fd_vl aL aR aC n i j) (32 * ch) s.1) (2 ^ n) (3000000000, b0) fd_g0 ?_ ?_
  · rintro N ⟨best, b⟩ hs
    exact pk_le (2 ^ n) (2 ^ n) (fun _ => h qq b best (Or.inr hs)) (fun z => by omega)
  · rintro N ch ⟨best, b⟩ hch hs next
    refine pk_le (2 ^ n) ch (fun z => by omega) (fun _ => xc_some (by omega) (fd_ps aL aR aC aT n c) (fun t ht => hqq _ (by omega)) (fun hx => br_f (by decide) ?_) (fun hx => br_t rfl (nm_r (nI_1 ch) (next (best, b) (fd_gN hs (by omega) hx)))))
    refine xc_tighten hX.1 ch (fun b' hb' => ?_)
    obtain ⟨p0, q1, q2, q3⟩ := hx
    obtain ⟨P, hP⟩ := fd_psS q3
    have ed : ∀ p, 32 * ch ≤ p → p < 32 * (ch + 1) → p / 32 = ch := fun p _ _ => by omega
    rw [ed p0 q1 q2] at hP
    have gw := hb' P hP i j hi hj
    have ev : ∀ p, 32 * ch ≤ p → p < 32 * (ch + 1) → fd_vl aL aR aC n i j p = P i j := fun p a1 a2 => fd_vlS (by rw [ed p a1 a2]; exact hP)
    refine ⟨fd_ixI hi hj, nm_r (congrArg b' (fd_ixC hi hj)) (br_c (fun z => h qq b' _ (Or.inl ⟨rfl, p0, by omega, q3, ?_⟩)) (fun z => ?_))⟩
    · rw [ev p0 q1 q2]
      rw [fd_eqI, fd_z9] at z
      unfold fd_gw at gw
      omega
    · rw [fd_eqI, fd_z9] at z
      have gx : P i j ≠ 1000000000 ∧ (b' (5 * i + j)).toInt = P i j := by
        unfold fd_gw at gw
        omega
      obtain ⟨k1, k2⟩ := fd_gStep hs (by omega) (P i j) (b' (5 * i + j)) gx.1 gx.2 ev ⟨p0, q1, q2, q3⟩
      exact br_c (fun y => nm_r (nI_1 ch) (next (_, b') (k1 y))) (fun y => br_c (fun x => nm_r (nI_1 ch) (next (_, b') ((k2 y).1 x))) (fun x => nm_r (nI_1 ch) (next (_, b') ((k2 y).2 x))))
end
