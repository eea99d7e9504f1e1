/-! what is owed: the methods that say something -/
theorem i_vc_push {k : Nat} {u : SX} {v : SY} (I : i_Rel k u v) (hk : k + 5 ≤ 2560) : wpX_push (fun r u' => wpY_push (fun r' v' => r' = r ∧ i_Rel (k + 5) u' v') v) u := by
  obtain ⟨n, c, l, H, w, aL, aR, aC, aY, aN, aD, aE, aP, aQ, aB, aT, aW, aS, rfl, rfl, hI⟩ := I
  obtain ⟨hD, ⟨h1, h2, h3⟩, hd, he, hpr, hcr, hlt, hT⟩ := hI
  have ec : (nI l).toNatClampNeg = l := nI_clamp (by omega)
  unfold wpX_push
  dsimp only
  refine pk_eq l 4 (fun e => ?_) (fun e => ?_)
  · exact br_t (by rw [e]; rfl) ⟨rfl, fd_mkR ⟨hD, ⟨h1, h2, h3⟩, hd, he, hpr, hcr, hlt, hT⟩⟩
  · have hin : vp_in (nI l) 4 := vp_in_nI (by omega) (by omega)
    refine ⟨hin, nm_r (congrArg (fun q => upd aD q (nI n)) ec) ⟨hin, nm_r (congrArg (fun q => upd aE q (nI c)) ec) (nm_r (nI_1 l) ?_)⟩⟩
    unfold wpY_push
    dsimp only
    refine pk_eq l 4 (fun z => (e z).elim) (fun _ => ?_)
    refine ⟨hin, nm_r (congrArg (fun q => upd aD q (nI n)) ec) ⟨hin, nm_r (congrArg (fun q => upd aE q (nI c)) ec) (nm_r (nI_1 l) ⟨rfl, fd_mkR ⟨hD, ⟨h1, h2, by omega⟩, fun q => ?_, fun q => ?_, hpr, hcr, hlt, hT⟩⟩)⟩⟩
    · by_cases y : q = l
      · rw [y, pk_us]
        exact ⟨n, hD.1, rfl⟩
      · rw [pk_un y]
        exact hd q
    · by_cases y : q = l
      · rw [y, pk_us]
        exact ⟨c, h1, rfl⟩
      · rw [pk_un y]
        exact he q
theorem i_vc_pop {k : Nat} {u : SX} {v : SY} (I : i_Rel k u v) (hk : k + 5 ≤ 2560) : wpX_pop (fun r u' => wpY_pop (fun r' v' => r' = r ∧ i_Rel (k + 5) u' v') v) u := by
  obtain ⟨n, c, l, H, w, aL, aR, aC, aY, aN, aD, aE, aP, aQ, aB, aT, aW, aS, rfl, rfl, hI⟩ := I
  obtain ⟨hD, ⟨h1, h2, h3⟩, hd, he, hpr, hcr, hlt, hT⟩ := hI
  unfold wpX_pop
  dsimp only
  refine pk_eq l 0 (fun e => ?_) (fun e => ?_)
  · exact br_t (by rw [e]; rfl) ⟨rfl, fd_mkR ⟨hD, ⟨h1, h2, h3⟩, hd, he, hpr, hcr, hlt, hT⟩⟩
  · obtain ⟨l', rfl⟩ : ∃ l', l = l' + 1 := ⟨l - 1, by omega⟩
    have ec : (nI l').toNatClampNeg = l' := nI_clamp (by omega)
    have hin : vp_in (nI l') 4 := vp_in_nI (by omega) (by omega)
    obtain ⟨m, hm, em⟩ := hd l'
    obtain ⟨m', hm', em'⟩ := he l'
    have e1 : aD (nI l').toNatClampNeg = nI m := by rw [ec]; exact em
    have e2 : aE (nI l').toNatClampNeg = nI m' := by rw [ec]; exact em'
    refine nm_r (nI_pred l') ⟨hin, nm_r e1 ⟨hin, nm_r e2 ?_⟩⟩
    unfold wpY_pop
    dsimp only
    refine pk_eq (l' + 1) 0 (fun z => (e z).elim) (fun _ => nm_r (nI_pred l') ⟨hin, nm_r e1 ⟨hin, nm_r e2 ⟨rfl, fd_mkR ⟨⟨hm, hD.2⟩, ⟨hm', h2, by omega⟩, hd, he, hpr, hcr, hlt, fun z => ?_⟩⟩⟩⟩)
    exact (fd_nIm1 (a := m) (by omega) z.symm).elim
theorem fd_prU {aP : Nat → Int32} (h : fd_pr aP) (k m : Nat) (hm : m ≤ 1000) : fd_pr (upd aP k (nI m)) := by
  intro q
  by_cases y : q = k
  · rw [y, pk_us]
    exact ⟨m, hm, rfl⟩
  · rw [pk_un y]
    exact h q
theorem i_vc_price {k : Nat} {u : SX} {v : SY} (I : i_Rel k u v) (hk : k + 5 ≤ 2560) (v1 : Int32) (v2 : Int32) : wpX_price (fun r u' => wpY_price (fun r' v' => r' = r ∧ i_Rel (k + 5) u' v') v v1 v2) u v1 v2 := by
  obtain ⟨n, c, l, H, w, aL, aR, aC, aY, aN, aD, aE, aP, aQ, aB, aT, aW, aS, rfl, rfl, hI⟩ := I
  have hI' := hI
  obtain ⟨hD, ⟨h1, h2, h3⟩, hd, he, hpr, hcr, hlt, hT⟩ := hI'
  have hn := hD.1
  unfold wpX_price wpY_price
  dsimp only
  refine xc_isLit hn v1 (fun z => br_f (by decide) ?_) (fun z => br_t rfl (yc_isLit hn v1 (fun y => (z y).elim) (fun _ => br_t rfl ⟨rfl, fd_mkR hI⟩)))
  have yy : ∀ {A : Int32 → Prop}, A 1 → wpY_isLiteral A (nI n, nI c, nI l, w, aL, aR, aC, aT, aD, aE, aW, aS, aP) v1 := fun a => yc_isLit hn v1 (fun _ => a) (fun y => (y z).elim)
  refine br_c (fun q => yy (br_f (by decide) (br_t q ⟨rfl, fd_mkR hI⟩))) (fun q => br_c (fun x => ?_) (fun x => yy (br_f (by decide) (br_f q (br_f x ⟨rfl, fd_mkR hI⟩)))))
  obtain ⟨a, ha, rfl⟩ := z
  obtain ⟨m, hm, rfl⟩ := nI_of2 (n := 1000) (by decide) q x
  have hin : vp_in (nI a) 20 := vp_in_nI (by omega) (by omega)
  have ec : (nI a).toNatClampNeg = a := nI_clamp (by omega)
  refine ⟨hin, nm_e ⟨hin, nm_r (congrArg (fun q => upd aP q (nI m)) ec) (yy (br_f (by decide) (br_f q (br_t x ⟨hin, nm_e ⟨hin, nm_r (congrArg (fun q => upd aP q (nI m)) ec) ⟨rfl, fd_mkR ⟨hD, ⟨h1, h2, h3⟩, hd, he, fd_prU hpr a m hm, hcr, hlt, hT⟩⟩⟩⟩))))⟩⟩
theorem fd_DU {n : Nat} {aL aR aC : Nat → Int32} {v1 v2 v3 : Int32} (h : fd_D n aL aR aC) (hn : n + 1 ≤ 5) (h1 : fd_var v1) (h2 : fd_var v2) (h3 : ¬ v3 < -1000) (h4 : v3 ≤ 1000) : fd_D (n + 1) (upd aL n v1) (upd aR n v2) (upd aC n v3) := by
  refine ⟨hn, fun d => ?_⟩
  by_cases y : d = n
  · rw [y, pk_us, pk_us, pk_us]
    rw [fd_ltI, show (-1000 : Int32).toInt = -1000 from by decide] at h3
    rw [fd_leI, show (1000 : Int32).toInt = 1000 from by decide] at h4
    exact ⟨h1, h2, by omega, h4⟩
  · rw [pk_un y, pk_un y, pk_un y]
    exact h.2 d
theorem yc_diff {n c l : Nat} {w : Int32} {aL aR aC aT aD aE aW aS aP : Nat → Int32} {post : Int32 → SY → Prop} {v1 v2 v3 : Int32} (h0 : ¬ (fd_var v1 ∧ fd_var v2 ∧ ¬ v1 = v2) → post (-1) (nI n, nI c, nI l, w, aL, aR, aC, aT, aD, aE, aW, aS, aP)) (h1 : fd_var v1 ∧ fd_var v2 ∧ ¬ v1 = v2 → v3 < -1000 → post (-1) (nI n, nI c, nI l, w, aL, aR, aC, aT, aD, aE, aW, aS, aP)) (h2 : fd_var v1 ∧ fd_var v2 ∧ ¬ v1 = v2 → ¬ v3 < -1000 → ¬ v3 ≤ 1000 → post (-1) (nI n, nI c, nI l, w, aL, aR, aC, aT, aD, aE, aW, aS, aP)) (hn : n ≤ 5)
    (h3 : fd_var v1 ∧ fd_var v2 ∧ ¬ v1 = v2 → ¬ v3 < -1000 → v3 ≤ 1000 → (n = 5 → post (-2) (nI n, nI c, nI l, w, aL, aR, aC, aT, aD, aE, aW, aS, aP)) ∧ (n < 5 → post (nI (5 + n)) (nI (n + 1), nI c, nI l, -1, upd aL n v1, upd aR n v2, upd aC n v3, aT, aD, aE, aW, aS, upd (upd aP (10 + 2 * n) (nI 0)) (11 + 2 * n) (nI 0)))) : wpY_difference post (nI n, nI c, nI l, w, aL, aR, aC, aT, aD, aE, aW, aS, aP) v1 v2 v3 := by
  unfold wpY_difference
  dsimp only
  refine yc_var v1 (fun a => br_f (by decide) (yc_var v2 (fun b => br_f (by decide) (br_c (fun z => h0 (fun y => y.2.2 z)) (fun z => ?_))) (fun z => br_t rfl (h0 (fun y => z y.2.1))))) (fun z => br_t rfl (h0 (fun y => z y.1)))
  refine br_c (fun x => h1 ⟨a, b, z⟩ x) (fun x => br_c (fun y => ?_) (fun y => h2 ⟨a, b, z⟩ x y))
  obtain ⟨g1, g2⟩ := h3 ⟨a, b, z⟩ x y
  refine pk_eq n 5 g1 (fun e => ?_)
  have ec : (nI n).toNatClampNeg = n := nI_clamp (by omega)
  have hin : vp_in (nI n) 5 := vp_in_nI (by omega) (by omega)
  have e1 : (10 : Int32) + 2 * nI n = nI (10 + 2 * n) := by
    show nI 10 + nI 2 * nI n = _
    rw [pk_mul, nI_add]
  have e2 : (11 : Int32) + 2 * nI n = nI (11 + 2 * n) := by
    show nI 11 + nI 2 * nI n = _
    rw [pk_mul, nI_add]
  rw [e1, e2]
  refine ⟨hin, nm_r (congrArg (fun q => upd aL q v1) ec) ⟨hin, nm_r (congrArg (fun q => upd aR q v2) ec) ⟨hin, nm_r (congrArg (fun q => upd aC q v3) ec) ?_⟩⟩⟩
  refine ⟨vp_in_nI (by omega) (by omega), nm_r (congrArg (fun q => upd aP q 0) (nI_clamp (by omega))) ⟨vp_in_nI (by omega) (by omega), nm_r (congrArg (fun q => upd (upd aP (10 + 2 * n) 0) q 0) (nI_clamp (by omega))) (nm_r (nI_1 n) ?_)⟩⟩
  have e3 : (4 : Int32) + nI (n + 1) = nI (5 + n) := by
    show nI 4 + _ = _
    rw [nI_add]
    exact congrArg nI (by omega)
  rw [e3]
  exact g2 (by omega)
theorem i_vc_difference {k : Nat} {u : SX} {v : SY} (I : i_Rel k u v) (hk : k + 5 ≤ 2560) (v1 : Int32) (v2 : Int32) (v3 : Int32) : wpX_difference (fun r u' => wpY_difference (fun r' v' => r' = r ∧ i_Rel (k + 5) u' v') v v1 v2 v3) u v1 v2 v3 := by
  obtain ⟨n, c, l, H, w, aL, aR, aC, aY, aN, aD, aE, aP, aQ, aB, aT, aW, aS, rfl, rfl, hI⟩ := I
  have hI' := hI
  obtain ⟨hD, ⟨h1, h2, h3⟩, hd, he, hpr, hcr, hlt, hT⟩ := hI'
  have hn := hD.1
  unfold wpX_difference
  dsimp only
  refine xc_two v1 v2 (fun m => br_f (by decide) ?_) (fun m => br_t rfl (yc_diff (fun _ => ⟨rfl, fd_mkR hI⟩) (fun z => (m z).elim) (fun z => (m z).elim) hn (fun z => (m z).elim)))
  refine br_c (fun x => yc_diff (fun z => (z m).elim) (fun _ _ => ⟨rfl, fd_mkR hI⟩) (fun _ z => (z x).elim) hn (fun _ z => (z x).elim)) (fun x => br_c (fun y => ?_) (fun y => yc_diff (fun z => (z m).elim) (fun _ z => (x z).elim) (fun _ _ _ => ⟨rfl, fd_mkR hI⟩) hn (fun _ _ z => (y z).elim)))
  refine pk_eq n 5 (fun e => yc_diff (fun z => (z m).elim) (fun _ z => (x z).elim) (fun _ _ z => (z y).elim) hn (fun _ _ _ => ⟨fun _ => ⟨rfl, fd_mkR hI⟩, fun z => by omega⟩)) (fun e => ?_)
  have ec : (nI n).toNatClampNeg = n := nI_clamp (by omega)
  have hin : vp_in (nI n) 5 := vp_in_nI (by omega) (by omega)
  have e1 : (2 : Int32) * nI (5 + n) = nI (10 + 2 * n) := by
    show nI 2 * nI (5 + n) = _
    rw [pk_mul]
    exact congrArg nI (by omega)
  have e2 : nI (10 + 2 * n) + 1 = nI (11 + 2 * n) := by
    rw [nI_1]
    exact congrArg nI (by omega)
  refine nm_r yc_ac ?_
  rw [e1, e2]
  refine ⟨hin, nm_r (congrArg (fun q => upd aL q v1) ec) ⟨hin, nm_r (congrArg (fun q => upd aR q v2) ec) ⟨hin, nm_r (congrArg (fun q => upd aC q v3) ec) ?_⟩⟩⟩
  refine ⟨vp_in_nI (by omega) (by omega), nm_r (congrArg (fun q => upd aP q 0) (nI_clamp (by omega))) ⟨vp_in_nI (by omega) (by omega), nm_r (congrArg (fun q => upd (upd aP (10 + 2 * n) 0) q 0) (nI_clamp (by omega))) (nm_r (nI_1 n) ?_)⟩⟩
  refine yc_diff (fun z => (z m).elim) (fun _ z => (x z).elim) (fun _ _ z => (z y).elim) hn (fun _ _ _ => ⟨fun z => (e z).elim, fun _ => ⟨rfl, ?_⟩⟩)
  exact fd_mkR (H := H) ⟨fd_DU hD (by omega) m.1 m.2.1 x y, ⟨h1, h2, h3⟩, hd, he, fd_prU (fd_prU hpr _ 0 (by omega)) _ 0 (by omega), hcr, hlt, fun z => (fd_nIm1 (a := n + 1) (by omega) z.symm).elim⟩
/-! clause -/
theorem fd_crU {aY aN aT : Nat → Int32} {c : Nat} {v1 v2 v3 v4 : Int32} (t1 : fd_lt v1) (t2 : fd_lt v2) (t3 : fd_lt v3) (t4 : fd_lt v4) (k : Nat) (h : k ≠ c → fd_cr aY aN aT k) : fd_cr (upd aY c (fd_yb v1 ||| fd_yb v2 ||| fd_yb v3 ||| fd_yb v4)) (upd aN c (fd_nb v1 ||| fd_nb v2 ||| fd_nb v3 ||| fd_nb v4)) (upd (upd (upd (upd aT (4 * c) v1) (4 * c + 1) v2) (4 * c + 2) v3) (4 * c + 3) v4) k := by
  by_cases e : k = c
  · subst e
    intro p hp
    have k1 := fd_lit1 p t1
    have k2 := fd_lit1 p t2
    have k3 := fd_lit1 p t3
    have k4 := fd_lit1 p t4
    unfold fd_c1
    rw [pk_us, pk_us, pk_us]
    rw [pk_un (j := 4 * k) (by omega), pk_un (j := 4 * k) (by omega), pk_un (j := 4 * k) (by omega), pk_us]
    rw [pk_un (j := 4 * k + 1) (by omega), pk_un (j := 4 * k + 1) (by omega), pk_us]
    rw [pk_un (j := 4 * k + 2) (by omega), pk_us]
    rw [fd_or0, fd_or0, fd_or0, fd_or0, fd_or0, fd_or0, Bool.or_eq_false_iff, Bool.or_eq_false_iff, Bool.or_eq_false_iff, ← k1, ← k2, ← k3, ← k4]
    constructor
    · rintro ⟨⟨⟨⟨a1, a2⟩, a3⟩, a4⟩, ⟨⟨b1, b2⟩, b3⟩, b4⟩
      exact ⟨⟨⟨⟨a1, b1⟩, ⟨a2, b2⟩⟩, ⟨a3, b3⟩⟩, ⟨a4, b4⟩⟩
    · rintro ⟨⟨⟨⟨a1, b1⟩, ⟨a2, b2⟩⟩, ⟨a3, b3⟩⟩, ⟨a4, b4⟩⟩
      exact ⟨⟨⟨⟨a1, a2⟩, a3⟩, a4⟩, ⟨⟨b1, b2⟩, b3⟩, b4⟩
  · intro p hp
    have hh := h e p hp
    have nt : ∀ j, (j < 4 * c ∨ 4 * c + 3 < j) → upd (upd (upd (upd aT (4 * c) v1) (4 * c + 1) v2) (4 * c + 2) v3) (4 * c + 3) v4 j = aT j := by
      intro j hj
      rw [pk_un (by omega), pk_un (by omega), pk_un (by omega), pk_un (by omega)]
    unfold fd_c1 at hh ⊢
    rw [nt _ (by omega), nt _ (by omega), nt _ (by omega), nt _ (by omega), pk_un e, pk_un e]
    exact hh
theorem yc_clause {n c l : Nat} {w : Int32} {aL aR aC aT aD aE aW aS aP : Nat → Int32} {post : Int32 → SY → Prop} {v1 v2 v3 v4 : Int32} (hn : n ≤ 5) (hc : c ≤ 24) (h0 : ¬ (fd_may n v1 ∧ fd_may n v2 ∧ fd_may n v3 ∧ fd_may n v4) → post (-1) (nI n, nI c, nI l, w, aL, aR, aC, aT, aD, aE, aW, aS, aP))
    (h1 : fd_may n v1 ∧ fd_may n v2 ∧ fd_may n v3 ∧ fd_may n v4 → (c = 24 → post (-2) (nI n, nI c, nI l, w, aL, aR, aC, aT, aD, aE, aW, aS, aP)) ∧ (c < 24 → post (nI (c + 1)) (nI n, nI (c + 1), nI l, w, aL, aR, aC, upd (upd (upd (upd aT (4 * c) v1) (4 * c + 1) v2) (4 * c + 2) v3) (4 * c + 3) v4, aD, aE, aW, aS, aP))) : wpY_clause post (nI n, nI c, nI l, w, aL, aR, aC, aT, aD, aE, aW, aS, aP) v1 v2 v3 v4 := by
  unfold wpY_clause
  dsimp only
  refine yc_may hn v1 (fun a => br_f (by decide) (yc_may hn v2 (fun b => br_f (by decide) (yc_may hn v3 (fun d => br_f (by decide) (yc_may hn v4 (fun e => br_f (by decide) ?_) (fun z => br_t rfl (h0 (fun y => z y.2.2.2))))) (fun z => br_t rfl (h0 (fun y => z y.2.2.1))))) (fun z => br_t rfl (h0 (fun y => z y.2.1))))) (fun z => br_t rfl (h0 (fun y => z y.1)))
  obtain ⟨g1, g2⟩ := h1 ⟨a, b, d, e⟩
  refine pk_eq c 24 g1 (fun z => ?_)
  have e0 : (4 : Int32) * nI c = nI (4 * c) := pk_mul 4 c
  have e1 : nI (4 * c) + 1 = nI (4 * c + 1) := nI_add _ 1
  have e2 : nI (4 * c) + 2 = nI (4 * c + 2) := nI_add _ 2
  have e3 : nI (4 * c) + 3 = nI (4 * c + 3) := nI_add _ 3
  rw [e0, e1, e2, e3]
  refine ⟨vp_in_nI (by omega) (by omega), nm_r (congrArg (fun q => upd aT q v1) (nI_clamp (by omega))) ⟨vp_in_nI (by omega) (by omega), nm_r (congrArg (fun q => upd (upd aT (4 * c) v1) q v2) (nI_clamp (by omega))) ⟨vp_in_nI (by omega) (by omega), nm_r (congrArg (fun q => upd (upd (upd aT (4 * c) v1) (4 * c + 1) v2) q v3) (nI_clamp (by omega))) ⟨vp_in_nI (by omega) (by omega), nm_r (congrArg (fun q => upd (upd (upd (upd aT (4 * c) v1) (4 * c + 1) v2) (4 * c + 2) v3) q v4) (nI_clamp (by omega))) (nm_r (nI_1 c) (g2 (by omega)))⟩⟩⟩⟩
theorem i_vc_clause {k : Nat} {u : SX} {v : SY} (I : i_Rel k u v) (hk : k + 5 ≤ 2560) (v1 : Int32) (v2 : Int32) (v3 : Int32) (v4 : Int32) : wpX_clause (fun r u' => wpY_clause (fun r' v' => r' = r ∧ i_Rel (k + 5) u' v') v v1 v2 v3 v4) u v1 v2 v3 v4 := by
  obtain ⟨n, c, l, H, w, aL, aR, aC, aY, aN, aD, aE, aP, aQ, aB, aT, aW, aS, rfl, rfl, hI⟩ := I
  have hI' := hI
  obtain ⟨hD, ⟨h1, h2, h3⟩, hd, he, hpr, hcr, hlt, hT⟩ := hI'
  have hn := hD.1
  have hc : c ≤ 24 := by omega
  unfold wpX_clause
  dsimp only
  refine xc_may hn v1 (fun a => br_f (by decide) (xc_may hn v2 (fun b => br_f (by decide) (xc_may hn v3 (fun d => br_f (by decide) (xc_may hn v4 (fun e => br_f (by decide) ?_) (fun z => br_t rfl (yc_clause hn hc (fun _ => ⟨rfl, fd_mkR hI⟩) (fun y => (z y.2.2.2).elim))))) (fun z => br_t rfl (yc_clause hn hc (fun _ => ⟨rfl, fd_mkR hI⟩) (fun y => (z y.2.2.1).elim))))) (fun z => br_t rfl (yc_clause hn hc (fun _ => ⟨rfl, fd_mkR hI⟩) (fun y => (z y.2.1).elim))))) (fun z => br_t rfl (yc_clause hn hc (fun _ => ⟨rfl, fd_mkR hI⟩) (fun y => (z y.1).elim)))
  have t1 := fd_mayL hn a
  have t2 := fd_mayL hn b
  have t3 := fd_mayL hn d
  have t4 := fd_mayL hn e
  refine pk_eq c 24 (fun z => yc_clause hn hc (fun y => (y ⟨a, b, d, e⟩).elim) (fun _ => ⟨fun _ => ⟨rfl, fd_mkR hI⟩, fun y => by omega⟩)) (fun z => ?_)
  have ec : (nI c).toNatClampNeg = c := nI_clamp (by omega)
  have hin : vp_in (nI c) 24 := vp_in_nI (by omega) (by omega)
  refine xc_yes t1 (xc_yes t2 (xc_yes t3 (xc_yes t4 ⟨hin, nm_r (congrArg (fun q => upd aY q (fd_yb v1 ||| fd_yb v2 ||| fd_yb v3 ||| fd_yb v4)) ec) ?_⟩)))
  refine xc_no t1 (xc_no t2 (xc_no t3 (xc_no t4 ⟨hin, nm_r (congrArg (fun q => upd aN q (fd_nb v1 ||| fd_nb v2 ||| fd_nb v3 ||| fd_nb v4)) ec) (nm_r (nI_1 c) ?_)⟩)))
  refine yc_clause hn hc (fun y => (y ⟨a, b, d, e⟩).elim) (fun _ => ⟨fun y => (z y).elim, fun _ => ⟨rfl, ?_⟩⟩)
  obtain ⟨H', hH1, hH2, hH3, hH4⟩ : ∃ H', H ≤ H' ∧ c + 1 ≤ H' ∧ H' ≤ 24 ∧ (H' ≤ H ∨ H' = c + 1) := by
    by_cases y : H ≤ c
    · exact ⟨c + 1, by omega, by omega, by omega, Or.inr rfl⟩
    · exact ⟨H, by omega, by omega, by omega, Or.inl (by omega)⟩
  refine fd_mkR (H := H') ⟨hD, ⟨hH2, hH3, h3⟩, hd, fun q => ?_, hpr, fun q hq => fd_crU t1 t2 t3 t4 q (fun ne => hcr q (by omega)), fun q hq => ?_, hT⟩
  · obtain ⟨m, hm, em⟩ := he q
    exact ⟨m, by omega, em⟩
  · by_cases y3 : q = 4 * c + 3
    · rw [y3, pk_us]
      exact t4
    · rw [pk_un y3]
      by_cases y2 : q = 4 * c + 2
      · rw [y2, pk_us]
        exact t3
      · rw [pk_un y2]
        by_cases y1 : q = 4 * c + 1
        · rw [y1, pk_us]
          exact t2
        · rw [pk_un y1]
          by_cases y0 : q = 4 * c
          · rw [y0, pk_us]
            exact t1
          · rw [pk_un y0]
            exact hlt q (by omega)
