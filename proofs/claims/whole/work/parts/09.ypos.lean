/-! the reference: literals, the tables, the possible patterns -/
section
variable {n c l : Nat} {w : Int32} {aL aR aC aT aD aE aW aS aP : Nat → Int32}
theorem yc_isLit {post : Int32 → Prop} (hn : n ≤ 5) (v : Int32) (h1 : fd_isl n v → post 1) (h0 : ¬ fd_isl n v → post 0) : wpY_isLiteral post (nI n, nI c, nI l, w, aL, aR, aC, aT, aD, aE, aW, aS, aP) v := by
  have e : (10 : Int32) + (2 * nI n) = nI (10 + 2 * n) := by
    show nI 10 + nI 2 * nI n = _
    rw [pk_mul, nI_add]
  rcases pk_ix v (n := 10 + 2 * n) (by omega) with z | z | ⟨j, hj, z⟩
  · exact br_t z (h0 (fun ⟨a, ha, e⟩ => fd_nneg z (by omega) e))
  · refine br_f (fd_nlt0 z (by omega)) ?_
    rw [e]
    exact br_t z (h0 (fun ⟨a, ha, e⟩ => fd_ngt z ha (by omega) e))
  · refine br_f (by rw [z]; exact nI_pos (by omega)) ?_
    rw [e]
    exact br_f (fd_nle z hj (by omega)) (h1 ⟨j, hj, z⟩)
theorem yc_may {post : Int32 → Prop} (hn : n ≤ 5) (v : Int32) (h1 : fd_may n v → post 1) (h0 : ¬ fd_may n v → post 0) : wpY_isPart post (nI n, nI c, nI l, w, aL, aR, aC, aT, aD, aE, aW, aS, aP) v := by
  refine br_c (fun z => h1 (Or.inl z)) (fun z => ?_)
  exact yc_isLit hn v (fun q => br_f (by decide) (h1 (Or.inr q))) (fun q => br_t rfl (h0 (fun q' => q'.elim z q)))
theorem yc_var {post : Int32 → Prop} (v : Int32) (h1 : fd_var v → post 1) (h0 : ¬ fd_var v → post 0) : wpY_isVariable post v := by
  rcases pk_ix v (n := 5) (by omega) with z | z | ⟨i, hi, z⟩
  · exact br_t z (h0 (fun ⟨a, ha, e⟩ => fd_nneg z (by omega) e))
  · refine br_f (fd_nlt0 z (by decide)) (br_t ?_ (h0 (fun ⟨a, ha, e⟩ => fd_ngt z ha (by decide) e)))
    rw [fd_ltI]
    rw [fd_leI] at z
    have e4 : (4 : Int32).toInt = 4 := by decide
    have e5 : (nI 5).toInt = 5 := by decide
    omega
  · refine br_f (by rw [z]; exact nI_pos (by omega)) (br_f ?_ (h1 ⟨i, hi, z⟩))
    rw [z]
    exact nI_nlt (a := 4) (by omega) (by omega)
def fd_tab (n : Nat) (aL aR aC aW aS : Nat → Int32) : Prop := ∀ ch, ch < 2 ^ n → aS ch = fd_b (fd_rs aL aR aC n ch).isSome ∧ ∀ P, fd_rs aL aR aC n ch = some P → ∀ i j, i < 5 → j < 5 → fd_gw 1000000 (P i j) (aW (25 * ch + 5 * j + i))
def fd_BY (n c : Nat) (w : Int32) (aL aR aC aT aW aS : Nat → Int32) : Prop := fd_D n aL aR aC ∧ c ≤ 24 ∧ (∀ k, k < 4 * c → fd_lt (aT k)) ∧ (w = nI n → fd_tab n aL aR aC aW aS)
theorem fd_narb (b : Bool) : vp_nar .boolean (fd_b b) = fd_b b := by
  cases b
  · exact fd_nar0
  · exact fd_nar1
theorem yc_work {post : SY → Prop} (hD : fd_D n aL aR aC) (hT : w = nI n → fd_tab n aL aR aC aW aS) (h : ∀ b s : Nat → Int32, fd_tab n aL aR aC b s → post (nI n, nI c, nI l, nI n, aL, aR, aC, aT, aD, aE, b, s, aP)) : wpY_work post (nI n, nI c, nI l, w, aL, aR, aC, aT, aD, aE, aW, aS, aP) := by
  have h2 := fd_2n hD.1
  unfold wpY_work
  dsimp only
  refine br_c (fun z => ?_) (fun z => ?_)
  · subst z
    exact h aW aS (hT rfl)
  · refine loop_0 (fun N p (s : (Nat → Int32) × (Nat → Int32)) => wY_work_22 post N (nI p) (nI n) (nI c) (nI l) (nI n) aL aR aC aT aD aE s.1 s.2 aP) (fun p s => ∀ ch, ch < p → s.2 ch = fd_b (fd_rs aL aR aC n ch).isSome ∧ ∀ P, fd_rs aL aR aC n ch = some P → ∀ i j, i < 5 → j < 5 → fd_gw 1000000 (P i j) (s.1 (25 * ch + 5 * j + i))) (2 ^ n) (aW, aS) (fun ch hch => by omega) ?_ ?_
    · intro N s hs
      exact pk_le (2 ^ n) (2 ^ n) (fun _ => h s.1 s.2 hs) (fun z => by omega) (hx := fd_1l (by have := hD.1; omega))
    · intro N p s hp hs next
      refine pk_le (2 ^ n) p (fun z => by omega) (fun _ => yc_ways hD (ch := p) (by omega) (fun b hf hg => ?_)) (hx := fd_1l (by have := hD.1; omega))
      refine ⟨vp_in_nI (by omega) (by omega), nm_r (e' := upd s.2 p (fd_b (fd_rs aL aR aC n p).isSome)) (by rw [nI_clamp (by omega), fd_narb]) (nm_r (nI_1 p) (next (b, upd s.2 p (fd_b (fd_rs aL aR aC n p).isSome)) ?_))⟩
      intro ch hch
      dsimp only
      by_cases e : ch = p
      · subst e
        exact ⟨pk_us, hg⟩
      · obtain ⟨k1, k2⟩ := hs ch (by omega)
        refine ⟨(pk_un e).trans k1, fun P hP i j hi hj => ?_⟩
        rw [hf (25 * ch + 5 * j + i) (by omega)]
        exact k2 P hP i j hi hj
theorem yc_all {post : Int32 → SY → Prop} (hY : fd_BY n c w aL aR aC aT aW aS) (h : ∀ b s : Nat → Int32, fd_tab n aL aR aC b s → post (nI (32 * 2 ^ n)) (nI n, nI c, nI l, nI n, aL, aR, aC, aT, aD, aE, b, s, aP)) : wpY_all post (nI n, nI c, nI l, w, aL, aR, aC, aT, aD, aE, aW, aS, aP) := by
  have hn := hY.1.1
  have h2 := fd_2n hn
  unfold wpY_all
  dsimp only
  refine yc_work hY.1 hY.2.2.2 (fun b s hT => ?_)
  show post (nI 32 <<< (nI n &&& 31)) _
  rw [pk_shlN (n := 32) (nI n &&& 31) n (s_l n (by omega)) (by omega)]
  exact h b s hT
theorem yc_holds {post : Int32 → Prop} {p a : Nat} (ha : a < 20) (h : post (fd_b (fd_lh p (nI a)))) : wpY_holds post (nI p) (nI a) := by
  refine ⟨by decide, by decide, ?_⟩
  rw [fd_yholds p ha]
  cases e : fd_lh p (nI a) with
  | true =>
    rw [e] at h
    exact br_t rfl h
  | false =>
    rw [e] at h
    exact br_f (fun z => nomatch z) h
theorem yc_p30 {post : Int32 → Prop} {J : Int32 → Prop} {p k m N : Nat} (hm : m < 4) (hk : k < 24) (hl : fd_lt (aT (4 * k + m))) (s : Bool) (h : wY_possible_30 post J (nI p) (nI k) (nI n) (nI c) (nI l) w aL aR aC aT aD aE aW aS aP N (fd_b (s || fd_lh p (aT (4 * k + m)))) (nI (4 * k + m + 1))) : wY_possible_30 post J (nI p) (nI k) (nI n) (nI c) (nI l) w aL aR aC aT aD aE aW aS aP (N + 1) (fd_b s) (nI (4 * k + m)) := by
  have e4 : (4 : Int32) * nI k + 4 = nI (4 * k + 4) := by
    show nI 4 * nI k + nI 4 = _
    rw [pk_mul, nI_add]
  have hin : vp_in (nI (4 * k + m)) 96 := vp_in_nI (by omega) (by omega)
  refine pk_le (4 * k + 4) (4 * k + m) (fun z => by omega) (fun _ => ⟨hin, ?_⟩) (hx := e4)
  rw [nI_clamp (by omega)]
  rcases hl with e | ⟨a, ha, e⟩
  · rw [e] at h ⊢
    rw [show fd_lh p (-1) = false from rfl, Bool.or_false] at h
    exact br_t (by decide) (nm_r (nI_1 _) h)
  · rw [e] at h ⊢
    refine br_f (nI_pos (by omega)) ⟨hin, yc_holds ha ?_⟩
    cases z : fd_lh p (nI a) with
    | false =>
      rw [z, Bool.or_false] at h
      exact br_t rfl (nm_r (nI_1 _) h)
    | true =>
      rw [z, Bool.or_true] at h
      exact br_f (by decide) (nm_r (nI_1 _) h)
theorem yc_p30e {post : Int32 → Prop} {J : Int32 → Prop} {p k N : Nat} (hk : k < 24) (s : Bool) (h0 : s = false → post 0) (h1 : s = true → J (nI (k + 1))) : wY_possible_30 post J (nI p) (nI k) (nI n) (nI c) (nI l) w aL aR aC aT aD aE aW aS aP (N + 1) (fd_b s) (nI (4 * k + 4)) := by
  have e4 : (4 : Int32) * nI k + 4 = nI (4 * k + 4) := by
    show nI 4 * nI k + nI 4 = _
    rw [pk_mul, nI_add]
  refine pk_le (4 * k + 4) (4 * k + 4) (fun _ => ?_) (fun z => by omega) (hx := e4)
  cases s with
  | false => exact br_t rfl (h0 rfl)
  | true => exact br_f (by decide) (nm_r (nI_1 k) (h1 rfl))
theorem yc_pos {post : Int32 → Prop} (hn : n ≤ 5) (hc : c ≤ 24) (hl : ∀ k, k < 4 * c → fd_lt (aT k)) (hT : fd_tab n aL aR aC aW aS) {p : Nat} (hp : p < 32 * 2 ^ n) (h : post (fd_b (fd_ps aL aR aC aT n c p))) : wpY_possible post (nI n, nI c, nI l, w, aL, aR, aC, aT, aD, aE, aW, aS, aP) (nI p) := by
  have h2 := fd_2n hn
  unfold wpY_possible
  dsimp only
  rw [pk_shrN (n := p) (by omega) ((5 : Int32) &&& 31) 5 (by decide), show (2 : Nat) ^ 5 = 32 from rfl]
  refine ⟨vp_in_nI (by omega) (by omega), ?_⟩
  rw [nI_clamp (by omega), (hT (p / 32) (by omega)).1]
  unfold fd_ps at h
  cases er : (fd_rs aL aR aC n (p / 32)).isSome with
  | false =>
    rw [er] at h
    exact br_t rfl h
  | true =>
    rw [er, Bool.true_and, fd_alx] at h
    refine br_f (by decide) ?_
    have inner : ∀ (N k : Nat), k < c → (fd_c1 aT p k = false → post 0) → (fd_c1 aT p k = true → wY_possible_15 post (nI p) (nI n) (nI c) (nI l) w aL aR aC aT aD aE aW aS aP N (nI (k + 1))) → wY_possible_15 post (nI p) (nI n) (nI c) (nI l) w aL aR aC aT aD aE aW aS aP (N + 1) (nI k) := by
      intro N k hk h0 h1
      refine pk_le c k (fun z => by omega) (fun _ => nm_r (pk_mul 4 k) ⟨5, ?_⟩)
      refine yc_p30 (m := 0) (by omega) (by omega) (hl _ (by omega)) false ?_
      refine yc_p30 (m := 1) (by omega) (by omega) (hl _ (by omega)) _ ?_
      refine yc_p30 (m := 2) (by omega) (by omega) (hl _ (by omega)) _ ?_
      refine yc_p30 (m := 3) (by omega) (by omega) (hl _ (by omega)) _ ?_
      refine yc_p30e (by omega) _ (fun z => h0 ?_) (fun z => h1 ?_)
      · rw [Bool.false_or] at z
        exact z
      · rw [Bool.false_or] at z
        exact z
    have key := fd_look (fun N i => wY_possible_15 post (nI p) (nI n) (nI c) (nI l) w aL aR aC aT aD aE aW aS aP N (nI i)) (fun k => !(fd_c1 aT p k)) c (post 0) (post 1) ?_ ?_ ?_ c 0 (by omega) ?_ ?_
    · exact ⟨c + 1, key⟩
    · intro N hp
      exact pk_le c c (fun _ => hp) (fun z => by omega)
    · intro N i hi hq hp'
      rw [Bool.not_eq_true'] at hq
      exact inner N i hi (fun _ => hp') (fun z => by rw [hq] at z; exact nomatch z)
    · intro N i hi hq hp'
      rw [Bool.not_eq_false'] at hq
      exact inner N i hi (fun z => by rw [hq] at z; exact nomatch z) (fun _ => hp')
    · intro e
      rw [e] at h
      exact h
    · intro e
      rw [e] at h
      exact h
end
