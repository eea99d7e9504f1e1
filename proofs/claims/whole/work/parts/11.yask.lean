/-! the reference: its questions -/
section
variable {n c l : Nat} {w : Int32} {aL aR aC aT aD aE aW aS aP : Nat → Int32}
theorem yc_ac : (5 : Int32) + nI n = nI (5 + n) := nI_add 5 n
theorem yc_cost {post : Int32 → Prop} (hn : n ≤ 5) (hpr : fd_pr aP) {p : Nat} (h : post (nI (fd_ct aP p (5 + n)))) : wpY_cost post (nI n, nI c, nI l, w, aL, aR, aC, aT, aD, aE, aW, aS, aP) (nI p) := by
  unfold wpY_cost
  dsimp only
  refine loop_0 (fun N a (s : Int32) => wY_cost_4 post (nI p) (nI n) (nI c) (nI l) w aL aR aC aT aD aE aW aS aP N s (nI a)) (fun a s => s = nI (fd_ct aP p a)) (5 + n) 0 rfl ?_ ?_
  · intro N s hs
    refine pk_le (5 + n) (5 + n) (fun _ => ?_) (fun z => by omega) (hx := yc_ac)
    rw [hs]
    exact h
  · intro N a s ha hs next
    refine pk_le (5 + n) a (fun z => by omega) (fun _ => ?_) (hx := yc_ac)
    rw [fd_bitN p (by omega)]
    have e3 : (2 : Int32) * nI a + 1 = nI (2 * a + 1) := by
      rw [show (2 : Int32) * nI a = nI (2 * a) from pk_mul 2 a, nI_1]
    rw [e3]
    by_cases t : p.testBit a = true
    · rw [if_pos t]
      obtain ⟨m, hm, em, ec⟩ := fd_ctS hpr p a (2 * a) (by rw [if_pos t])
      rw [show nI (2 * a + 1) - 1 = nI (2 * a) from nI_pred _]
      refine ⟨vp_in_nI (by omega) (by omega), nm_r (e' := nI (fd_ct aP p (a + 1))) ?_ (nm_r (nI_1 a) (next _ rfl))⟩
      rw [nI_clamp (by omega), em, hs, nI_add, ec]
    · rw [if_neg t]
      obtain ⟨m, hm, em, ec⟩ := fd_ctS hpr p a (2 * a + 1) (by rw [if_neg t])
      rw [Int32.sub_zero]
      refine ⟨vp_in_nI (by omega) (by omega), nm_r (e' := nI (fd_ct aP p (a + 1))) ?_ (nm_r (nI_1 a) (next _ rfl))⟩
      rw [nI_clamp (by omega), em, hs, nI_add, ec]
theorem yc_costL {post : Int64 → Prop} (hn : n ≤ 5) (hpr : fd_pr aP) {p : Nat} (h : post (lN (fd_ct aP p (5 + n)))) : wpY_cost (fun r => post r.toInt64) (nI n, nI c, nI l, w, aL, aR, aC, aT, aD, aE, aW, aS, aP) (nI p) := by
  refine yc_cost hn hpr ?_
  have := fd_ctB hpr p (5 + n)
  rw [nI_l (by omega)]
  exact h
theorem yc_cheapest {post : Int64 → SY → Prop} (hY : fd_BY n c w aL aR aC aT aW aS) (hpr : fd_pr aP) (h : ∀ b s : Nat → Int32, fd_tab n aL aR aC b s → post (fd_lo (fd_mn (fd_ps aL aR aC aT n c) (fun p => fd_ct aP p (5 + n))) (32 * 2 ^ n) 0 3000000000) (nI n, nI c, nI l, nI n, aL, aR, aC, aT, aD, aE, b, s, aP)) : wpY_cheapest post (nI n, nI c, nI l, w, aL, aR, aC, aT, aD, aE, aW, aS, aP) := by
  have hn := hY.1.1
  have h2 := fd_2n hn
  unfold wpY_cheapest
  dsimp only
  refine yc_all hY (fun b s hT => ?_)
  dsimp only
  have key := fd_run (fun N i (x : Int64) => wY_cheapest_12 post (nI (32 * 2 ^ n)) (nI n) (nI c) (nI l) (nI n) aL aR aC aT aD aE b s aP N x (nI i)) (fd_mn (fd_ps aL aR aC aT n c) (fun p => fd_ct aP p (5 + n))) (fun _ _ => True) (32 * 2 ^ n) (fun r => post r (nI n, nI c, nI l, nI n, aL, aR, aC, aT, aD, aE, b, s, aP)) (fun _ _ _ _ => trivial) ?_ ?_ (32 * 2 ^ n) 0 3000000000 (by omega) trivial (h b s hT)
  · exact ⟨_, key⟩
  · intro N x _ hp
    exact pk_le (32 * 2 ^ n) (32 * 2 ^ n) (fun _ => hp) (fun z => by omega)
  · intro N i x hi _ hp
    refine pk_le (32 * 2 ^ n) i (fun z => by omega) (fun _ => yc_pos hn hY.2.1 hY.2.2.1 hT hi ?_)
    unfold fd_mn at hp
    cases e : fd_ps aL aR aC aT n c i with
    | false =>
      rw [e, if_neg (fun z => nomatch z.1)] at hp
      exact br_t rfl (nm_r (nI_1 i) hp)
    | true =>
      rw [e] at hp
      have hb := fd_ctB hpr i (5 + n)
      have el : (nI (fd_ct aP i (5 + n))).toInt64 = lN (fd_ct aP i (5 + n)) := nI_l (by omega)
      refine br_f (by decide) (yc_cost hn hpr ?_)
      rw [el]
      refine br_c (fun z => ?_) (fun z => yc_cost hn hpr ?_)
      · rw [if_neg (fun y => Int64.not_lt.mpr z y.2)] at hp
        exact nm_r (nI_1 i) hp
      · rw [if_pos ⟨rfl, Int64.not_le.mp z⟩] at hp
        rw [el]
        exact nm_r (nI_1 i) hp
theorem yc_bf {post : Int32 → Prop} {i b : Nat} (hi : i < 1024) (hb : b < i) (h1 : fd_bf i (nI b) → post 1) (h0 : ¬ fd_bf i (nI b) → post 0) : wpY_before post (nI i) (nI b) := by
  have k : fd_bf i (nI b) ↔ ¬ nI b &&& ((nI i ^^^ nI b) &&& -(nI i ^^^ nI b)) = 0 := fd_bef hi (by omega) (by omega)
  exact nm_e (nm_e (br_c (fun z => h0 (fun y => k.1 y z)) (fun z => h1 (k.2 z))))
/-- one chosen pattern more, as the reference takes it -/
theorem yc_sel {A B : Prop} {q : Nat → Bool} {i : Nat} {s : Int32} (hi : i < 1024) (hI : fd_fI i s) (qt : q i = true) (hA : fd_fs q i s = nI i → A) (hB : fd_fs q i s = s → B) : (s < 0 → A) ∧ (¬ s < 0 → wpY_before (fun r => (r = 0 → B) ∧ (¬ r = 0 → A)) (nI i) s) := by
  rcases hI with e | ⟨b, hb, e⟩
  · exact br_t (by rw [e]; decide) (hA (fd_fsT ⟨qt, Or.inl e⟩))
  · subst e
    refine br_f (nI_pos (by omega)) (yc_bf hi hb (fun z => br_f (by decide) (hA (fd_fsT ⟨qt, Or.inr z⟩))) (fun z => br_t rfl (hB (fd_fsF (fun y => y.2.elim (fd_nIm1 (by omega)) z)))))
theorem yc_first {post : Int32 → SY → Prop} (hY : fd_BY n c w aL aR aC aT aW aS) (h : ∀ b s : Nat → Int32, fd_tab n aL aR aC b s → post (fd_lo (fd_fs (fd_ps aL aR aC aT n c)) (32 * 2 ^ n) 0 (-1)) (nI n, nI c, nI l, nI n, aL, aR, aC, aT, aD, aE, b, s, aP)) : wpY_first post (nI n, nI c, nI l, w, aL, aR, aC, aT, aD, aE, aW, aS, aP) := by
  have hn := hY.1.1
  have h2 := fd_2n hn
  unfold wpY_first
  dsimp only
  refine yc_all hY (fun b s hT => ?_)
  dsimp only
  have key := fd_run (fun N i (x : Int32) => wY_first_9 post (nI (32 * 2 ^ n)) (nI n) (nI c) (nI l) (nI n) aL aR aC aT aD aE b s aP N x (nI i)) (fd_fs (fd_ps aL aR aC aT n c)) fd_fI (32 * 2 ^ n) (fun r => post r (nI n, nI c, nI l, nI n, aL, aR, aC, aT, aD, aE, b, s, aP)) fd_fsI ?_ ?_ (32 * 2 ^ n) 0 (-1) (by omega) (Or.inl rfl) (h b s hT)
  · exact ⟨_, key⟩
  · intro N x _ hp
    exact pk_le (32 * 2 ^ n) (32 * 2 ^ n) (fun _ => hp) (fun z => by omega)
  · intro N i x hi hI hp
    refine pk_le (32 * 2 ^ n) i (fun z => by omega) (fun _ => yc_pos hn hY.2.1 hY.2.2.1 hT hi ?_)
    cases e : fd_ps aL aR aC aT n c i with
    | false =>
      rw [fd_fsF (fun z => by have := z.1; rw [e] at this; exact nomatch this)] at hp
      exact br_t rfl (nm_r (nI_1 i) hp)
    | true =>
      refine br_f (by decide) (yc_sel (by omega) hI e (fun z => ?_) (fun z => ?_))
      · rw [z] at hp
        exact nm_r (nI_1 i) hp
      · rw [z] at hp
        exact nm_r (nI_1 i) hp
theorem yc_firstCheapest {post : Int32 → SY → Prop} (hY : fd_BY n c w aL aR aC aT aW aS) (hpr : fd_pr aP) (q : Nat → Bool) (hq : ∀ p, p < 32 * 2 ^ n → (q p = true ↔ (fd_ps aL aR aC aT n c p = true ∧ lN (fd_ct aP p (5 + n)) = fd_lo (fd_mn (fd_ps aL aR aC aT n c) (fun p => fd_ct aP p (5 + n))) (32 * 2 ^ n) 0 3000000000))) (h : ∀ b s : Nat → Int32, fd_tab n aL aR aC b s → post (fd_lo (fd_fs q) (32 * 2 ^ n) 0 (-1)) (nI n, nI c, nI l, nI n, aL, aR, aC, aT, aD, aE, b, s, aP)) : wpY_firstCheapest post (nI n, nI c, nI l, w, aL, aR, aC, aT, aD, aE, aW, aS, aP) := by
  have hn := hY.1.1
  have h2 := fd_2n hn
  unfold wpY_firstCheapest
  dsimp only
  refine yc_cheapest hY hpr (fun b0 s0 hT0 => ?_)
  dsimp only
  refine yc_all (aT := aT) ⟨hY.1, hY.2.1, hY.2.2.1, fun _ => hT0⟩ (fun b s hT => ?_)
  dsimp only
  generalize fd_lo (fd_mn (fd_ps aL aR aC aT n c) (fun p => fd_ct aP p (5 + n))) (32 * 2 ^ n) 0 3000000000 = least at hq ⊢
  have key := fd_run (fun N i (x : Int32) => wY_firstCheapest_16 post least (nI (32 * 2 ^ n)) (nI n) (nI c) (nI l) (nI n) aL aR aC aT aD aE b s aP N x (nI i)) (fd_fs q) fd_fI (32 * 2 ^ n) (fun r => post r (nI n, nI c, nI l, nI n, aL, aR, aC, aT, aD, aE, b, s, aP)) fd_fsI ?_ ?_ (32 * 2 ^ n) 0 (-1) (by omega) (Or.inl rfl) (h b s hT)
  · exact ⟨_, key⟩
  · intro N x _ hp
    exact pk_le (32 * 2 ^ n) (32 * 2 ^ n) (fun _ => hp) (fun z => by omega)
  · intro N i x hi hI hp
    have hb := fd_ctB hpr i (5 + n)
    have el : (nI (fd_ct aP i (5 + n))).toInt64 = lN (fd_ct aP i (5 + n)) := nI_l (by omega)
    refine pk_le (32 * 2 ^ n) i (fun z => by omega) (fun _ => yc_cost hn hpr ?_)
    rw [el]
    refine br_c (fun ze => yc_pos hn hY.2.1 hY.2.2.1 hT hi ?_) (fun ze => ?_)
    · cases e : fd_ps aL aR aC aT n c i with
      | false =>
        rw [fd_fsF (fun z => by have := ((hq i hi).1 z.1).1; rw [e] at this; exact nomatch this)] at hp
        exact br_t rfl (nm_r (nI_1 i) hp)
      | true =>
        refine br_f (by decide) (yc_sel (by omega) hI ((hq i hi).2 ⟨e, ze⟩) (fun z => ?_) (fun z => ?_))
        · rw [z] at hp
          exact nm_r (nI_1 i) hp
        · rw [z] at hp
          exact nm_r (nI_1 i) hp
    · rw [fd_fsF (fun z => ze ((hq i hi).1 z.1).2)] at hp
      exact nm_r (nI_1 i) hp
theorem yc_patterns {post : Int32 → SY → Prop} (hY : fd_BY n c w aL aR aC aT aW aS) (h : ∀ b s : Nat → Int32, fd_tab n aL aR aC b s → post (fd_lo (fd_cn (fd_ps aL aR aC aT n c)) (32 * 2 ^ n) 0 0) (nI n, nI c, nI l, nI n, aL, aR, aC, aT, aD, aE, b, s, aP)) : wpY_patterns post (nI n, nI c, nI l, w, aL, aR, aC, aT, aD, aE, aW, aS, aP) := by
  have hn := hY.1.1
  have h2 := fd_2n hn
  unfold wpY_patterns
  dsimp only
  refine yc_all hY (fun b s hT => ?_)
  dsimp only
  have key := fd_run (fun N i (x : Int32) => wY_patterns_9 post (nI (32 * 2 ^ n)) (nI n) (nI c) (nI l) (nI n) aL aR aC aT aD aE b s aP N x (nI i)) (fd_cn (fd_ps aL aR aC aT n c)) (fun _ _ => True) (32 * 2 ^ n) (fun r => post r (nI n, nI c, nI l, nI n, aL, aR, aC, aT, aD, aE, b, s, aP)) (fun _ _ _ _ => trivial) ?_ ?_ (32 * 2 ^ n) 0 0 (by omega) trivial (h b s hT)
  · exact ⟨_, key⟩
  · intro N x _ hp
    exact pk_le (32 * 2 ^ n) (32 * 2 ^ n) (fun _ => hp) (fun z => by omega)
  · intro N i x hi _ hp
    refine pk_le (32 * 2 ^ n) i (fun z => by omega) (fun _ => yc_pos hn hY.2.1 hY.2.2.1 hT hi ?_)
    unfold fd_cn at hp
    cases e : fd_ps aL aR aC aT n c i with
    | false =>
      rw [e, if_neg (fun z => nomatch z)] at hp
      exact br_t rfl (nm_r (nI_1 i) hp)
    | true =>
      rw [e, if_pos rfl] at hp
      exact br_f (by decide) (nm_e (nm_r (nI_1 i) hp))
theorem fd_ifeq {a b : Bool} : ((if a = true then (1 : Int32) else 0) = (if b = true then (1 : Int32) else 0)) ↔ (a != b) = false := by
  cases a <;> cases b <;> decide
theorem yc_s55 {post : Int32 → SY → Prop} (hn : n ≤ 5) (y z : Int32) (h0 : y ||| z = 0 → post 0 (nI n, nI c, nI l, w, aL, aR, aC, aT, aD, aE, aW, aS, aP)) (h1 : ¬ y ||| z = 0 → post (nI (fd_cb (fun k => bt y k != bt z k) (5 + n))) (nI n, nI c, nI l, w, aL, aR, aC, aT, aD, aE, aW, aS, aP)) : ∃ N, wY_settled_55 post y z (nI n) (nI c) (nI l) w aL aR aC aT aD aE aW aS aP N 0 0 := by
  by_cases t : y ||| z = 0
  · exact ⟨1, pk_le (5 + n) 0 (fun z => by omega) (fun _ => br_t t (h0 t)) (hx := yc_ac)⟩
  · refine loop_0 (fun N a (s : Int32) => wY_settled_55 post y z (nI n) (nI c) (nI l) w aL aR aC aT aD aE aW aS aP N s (nI a)) (fun a s => s = nI (fd_cb (fun k => bt y k != bt z k) a)) (5 + n) 0 rfl ?_ ?_
    · intro N s hs
      refine pk_le (5 + n) (5 + n) (fun _ => ?_) (fun z => by omega) (hx := yc_ac)
      rw [hs]
      exact h1 t
    · intro N a s ha hs next
      refine pk_le (5 + n) a (fun z => by omega) (fun _ => br_f t ?_) (hx := yc_ac)
      rw [fd_bit y (by omega), fd_bit z (by omega), fd_ifeq]
      have e : fd_cb (fun k => bt y k != bt z k) (a + 1) = fd_cb (fun k => bt y k != bt z k) a + (if (bt y a != bt z a) = true then 1 else 0) := rfl
      refine br_c (fun q => nm_r (nI_1 a) (next s ?_)) (fun q => nm_r (e' := nI (fd_cb (fun k => bt y k != bt z k) (a + 1))) ?_ (nm_r (nI_1 a) (next _ rfl)))
      · rw [e, q, hs]
        rfl
      · rw [e, if_pos (Bool.not_eq_false _ ▸ q), hs, nI_1]
theorem yc_settled {post : Int32 → SY → Prop} (hY : fd_BY n c w aL aR aC aT aW aS) (h : ∀ (b s : Nat → Int32) (y z : Int32), fd_tab n aL aR aC b s → fd_sY (fd_ps aL aR aC aT n c) (32 * 2 ^ n) y z → (y ||| z = 0 → post 0 (nI n, nI c, nI l, nI n, aL, aR, aC, aT, aD, aE, b, s, aP)) ∧ (¬ y ||| z = 0 → post (nI (fd_cb (fun k => bt y k != bt z k) (5 + n))) (nI n, nI c, nI l, nI n, aL, aR, aC, aT, aD, aE, b, s, aP))) : wpY_settled post (nI n, nI c, nI l, w, aL, aR, aC, aT, aD, aE, aW, aS, aP) := by
  have hn := hY.1.1
  have h2 := fd_2n hn
  unfold wpY_settled
  dsimp only
  refine yc_all hY (fun b s hT => ?_)
  dsimp only
  refine loop_0 (fun N i (x : Int32 × Int32) => wY_settled_12 post (nI (32 * 2 ^ n)) (nI n) (nI c) (nI l) (nI n) aL aR aC aT aD aE b s aP N x.1 x.2 (nI i)) (fun i x => fd_sY (fd_ps aL aR aC aT n c) i x.1 x.2) (32 * 2 ^ n) (0, 0) fd_sY0 ?_ ?_
  · rintro N ⟨y, z⟩ hs
    have k := h b s y z hT hs
    exact pk_le (32 * 2 ^ n) (32 * 2 ^ n) (fun _ => yc_s55 hn y z k.1 k.2) (fun z => by omega)
  · rintro N i ⟨y, z⟩ hi hs next
    refine pk_le (32 * 2 ^ n) i (fun z => by omega) (fun _ => yc_pos hn hY.2.1 hY.2.2.1 hT hi ?_)
    cases e : fd_ps aL aR aC aT n c i with
    | false => exact br_t rfl (nm_r (nI_1 i) (next (y, z) (fd_sYf hs e)))
    | true => exact br_f (by decide) (nm_e (nm_e (nm_r (nI_1 i) (next (y ||| nI i, z ||| (nI i ^^^ (-1))) (fd_sYt hs e)))))
theorem fd_iniG {L R : Nat → Nat} {C : Nat → Int} {ch : Nat} (hC : ∀ d, -1000 ≤ C d ∧ C d ≤ 1000) : ∀ k, fd_rg 1001 (fd_ini L R C ch k)
  | 0 => fun i j _ _ => by
    show fd_P0 i j = 1000000000 ∨ (-1001 ≤ fd_P0 i j ∧ fd_P0 i j ≤ 1001)
    unfold fd_P0
    split <;> omega
  | k + 1 => by
    intro i j hi hj
    have h1 := fd_iniG (L := L) (R := R) (ch := ch) hC k i j hi hj
    have h2 := hC k
    simp only [fd_ini]
    split <;> unfold fd_put <;> split <;> omega
theorem fd_vnG {P : Nat → Nat → Int} (h : fd_rg 1001 P) : ∀ k, k ≤ 5 → ∀ Q, fd_vn (some P) k = some Q → fd_rg (fd_Bk k) Q
  | 0, _, Q, e => by
    cases e
    exact h
  | k + 1, hk, Q, e => by
    simp only [fd_vn] at e
    cases z : fd_vn (some P) k with
    | none =>
      rw [z] at e
      exact nomatch e
    | some R =>
      rw [z] at e
      have ih := fd_vnG h k (by omega) R z
      simp only [fd_vo] at e
      split at e
      · exact nomatch e
      · cases e
        exact fd_viaG (by omega) (fd_BkB k (by omega)).1 ih
theorem fd_rsG {ch : Nat} {P : Nat → Nat → Int} (hD : fd_D n aL aR aC) (h : fd_rs aL aR aC n ch = some P) : fd_rg 32032 P := by
  unfold fd_rs fd_res at h
  cases z : fd_vn (some (fd_ini (fun d => (aL d).toNatClampNeg) (fun d => (aR d).toNatClampNeg) (fun d => (aC d).toInt) ch n)) 5 with
  | none =>
    rw [z] at h
    exact nomatch h
  | some Q =>
    rw [z] at h
    have k := fd_vnG (fd_iniG (fun d => (hD.2 d).2.2) n) 5 (by omega) Q z
    simp only [fd_fin] at h
    split at h
    · exact nomatch h
    · cases h
      exact k
theorem yc_greatest {post : Int64 → SY → Prop} (hY : fd_BY n c w aL aR aC aT aW aS) {i j : Nat} (hi : i < 5) (hj : j < 5) (hij : ¬ nI i = nI j) (h : ∀ (b s : Nat → Int32) (r : Int64), fd_tab n aL aR aC b s → fd_gR (fd_ps aL aR aC aT n c) (fd_vl aL aR aC n i j) (32 * 2 ^ n) r → post r (nI n, nI c, nI l, nI n, aL, aR, aC, aT, aD, aE, b, s, aP)) : wpY_greatest post (nI n, nI c, nI l, w, aL, aR, aC, aT, aD, aE, aW, aS, aP) (nI i) (nI j) := by
  have hn := hY.1.1
  have h2 := fd_2n hn
  unfold wpY_greatest
  dsimp only
  refine yc_var (nI i) (fun _ => br_f (by decide) (yc_var (nI j) (fun _ => br_f (by decide) (br_f hij ?_)) (fun z => (z ⟨j, hj, rfl⟩).elim))) (fun z => (z ⟨i, hi, rfl⟩).elim)
  refine yc_all hY (fun b s hT => ?_)
  dsimp only
  refine loop_0 (fun N p (x : Int64) => wY_greatest_36 post (nI i) (nI j) (nI (32 * 2 ^ n)) (nI n) (nI c) (nI l) (nI n) aL aR aC aT aD aE b s aP N x (nI p)) (fun p x => fd_gI (fd_ps aL aR aC aT n c) (fd_vl aL aR aC n i j) p x) (32 * 2 ^ n) 3000000000 fd_g0 ?_ ?_
  · intro N best hs
    exact pk_le (32 * 2 ^ n) (32 * 2 ^ n) (fun _ => h b s best hT (Or.inr hs)) (fun z => by omega)
  · intro N p best hp hs next
    refine pk_le (32 * 2 ^ n) p (fun z => by omega) (fun _ => yc_pos hn hY.2.1 hY.2.2.1 hT hp ?_)
    cases e : fd_ps aL aR aC aT n c p with
    | false => exact br_t rfl (nm_r (nI_1 p) (next best (fd_gN hs (by omega) (fun p' q1 q2 => by
        have : p' = p := by omega
        rw [this]
        exact e))))
    | true =>
      refine br_f (by decide) ?_
      obtain ⟨P, hP⟩ := fd_psS e
      have gw := (hT (p / 32) (by omega)).2 P hP i j hi hj
      have ev : fd_vl aL aR aC n i j p = P i j := fd_vlS hP
      have ei : 25 * (nI p >>> ((5 : Int32) &&& 31)) + 5 * nI j + nI i = nI (25 * (p / 32) + 5 * j + i) := by
        rw [pk_shrN (n := p) (by omega) ((5 : Int32) &&& 31) 5 (by decide), show (2 : Nat) ^ 5 = 32 from rfl, fd_25, fd_5, nI_add, nI_add]
      rw [ei]
      refine ⟨vp_in_nI (by omega) (by omega), nm_r (congrArg b (nI_clamp (by omega))) (br_c (fun z => h b s _ hT (Or.inl ⟨rfl, p, hp, e, ?_⟩)) (fun z => ?_))⟩
      · rw [ev]
        rw [fd_eqI, fd_z6] at z
        unfold fd_gw at gw
        have rg := fd_rsG hY.1 hP i j hi hj
        omega
      · rw [fd_eqI, fd_z6] at z
        have gx : P i j ≠ 1000000000 ∧ (b (25 * (p / 32) + 5 * j + i)).toInt = P i j := by
          unfold fd_gw at gw
          omega
        obtain ⟨k1, k2⟩ := fd_gStep (q' := p + 1) hs (by omega) (P i j) (b (25 * (p / 32) + 5 * j + i)) gx.1 gx.2 (fun p' q1 q2 => by
          have : p' = p := by omega
          rw [this]
          exact ev) ⟨p, by omega, by omega, e⟩
        exact br_c (fun y => nm_r (nI_1 p) (next _ (k1 y))) (fun y => br_c (fun x => nm_r (nI_1 p) (next _ ((k2 y).1 x))) (fun x => nm_r (nI_1 p) (next _ ((k2 y).2 x))))
def fd_ft (p : Nat) (v : Int32) : Bool := decide (v = -1) || fd_lh p v
theorem yc_ft {A B : Prop} {p : Nat} {v : Int32} (hv : fd_lt v) (hA : fd_ft p v = true → A) (hB : fd_ft p v = false → B) : (v < 0 → A) ∧ (¬ v < 0 → wpY_holds (fun r => (r = 0 → B) ∧ (¬ r = 0 → A)) (nI p) v) := by
  rcases hv with e | ⟨a, ha, e⟩
  · refine br_t (by rw [e]; decide) (hA ?_)
    unfold fd_ft
    rw [decide_eq_true e, Bool.true_or]
  · subst e
    have ef : fd_ft p (nI a) = fd_lh p (nI a) := by
      unfold fd_ft
      rw [decide_eq_false (fd_nIm1 (by omega)), Bool.false_or]
    rw [ef] at hA hB
    refine br_f (nI_pos (by omega)) (yc_holds ha ?_)
    cases z : fd_lh p (nI a) with
    | false => exact br_t rfl (hB z)
    | true => exact br_f (by decide) (hA z)
theorem yc_check {post : Int32 → SY → Prop} (hY : fd_BY n c w aL aR aC aT aW aS) {v1 v2 v3 : Int32} (m1 : fd_may n v1) (m2 : fd_may n v2) (m3 : fd_may n v3) (h : ∀ b s : Nat → Int32, fd_tab n aL aR aC b s → post (fd_b (fd_ex (fun p => fd_ft p v1 && (fd_ft p v2 && (fd_ft p v3 && fd_ps aL aR aC aT n c p))) (32 * 2 ^ n) 0)) (nI n, nI c, nI l, nI n, aL, aR, aC, aT, aD, aE, b, s, aP)) : wpY_check post (nI n, nI c, nI l, w, aL, aR, aC, aT, aD, aE, aW, aS, aP) v1 v2 v3 := by
  have hn := hY.1.1
  have h2 := fd_2n hn
  unfold wpY_check
  dsimp only
  refine yc_may hn v1 (fun _ => br_f (by decide) (yc_may hn v2 (fun _ => br_f (by decide) (yc_may hn v3 (fun _ => br_f (by decide) ?_) (fun z => (z m3).elim))) (fun z => (z m2).elim))) (fun z => (z m1).elim)
  refine yc_all hY (fun b s hT => ?_)
  dsimp only
  have key := fd_look (fun N i => wY_check_35 post v1 v2 v3 (nI (32 * 2 ^ n)) (nI n) (nI c) (nI l) (nI n) aL aR aC aT aD aE b s aP N (nI i)) (fun p => fd_ft p v1 && (fd_ft p v2 && (fd_ft p v3 && fd_ps aL aR aC aT n c p))) (32 * 2 ^ n) (post 1 (nI n, nI c, nI l, nI n, aL, aR, aC, aT, aD, aE, b, s, aP)) (post 0 (nI n, nI c, nI l, nI n, aL, aR, aC, aT, aD, aE, b, s, aP)) ?_ ?_ ?_ (32 * 2 ^ n) 0 (by omega) ?_ ?_
  · exact ⟨_, key⟩
  · intro N hp
    exact pk_le (32 * 2 ^ n) (32 * 2 ^ n) (fun _ => hp) (fun z => by omega)
  · intro N i hi hq hp
    simp only [Bool.and_eq_true] at hq
    obtain ⟨q1, q2, q3, q4⟩ := hq
    refine pk_le (32 * 2 ^ n) i (fun z => by omega) (fun _ => yc_ft (fd_mayL hn m1) (fun _ => yc_ft (fd_mayL hn m2) (fun _ => yc_ft (fd_mayL hn m3) (fun _ => ?_) (fun z => ?_)) (fun z => ?_)) (fun z => ?_))
    · refine br_f (by decide) (yc_pos hn hY.2.1 hY.2.2.1 hT hi (br_f (fd_bn1 q4) hp))
    · rw [q3] at z; exact nomatch z
    · rw [q2] at z; exact nomatch z
    · rw [q1] at z; exact nomatch z
  · intro N i hi hq hp
    refine pk_le (32 * 2 ^ n) i (fun z => by omega) (fun _ => yc_ft (fd_mayL hn m1) (fun z1 => yc_ft (fd_mayL hn m2) (fun z2 => yc_ft (fd_mayL hn m3) (fun z3 => ?_) (fun z => ?_)) (fun z => ?_)) (fun z => ?_))
    · rw [z1, z2, z3, Bool.true_and, Bool.true_and, Bool.true_and] at hq
      exact br_f (by decide) (yc_pos hn hY.2.1 hY.2.2.1 hT hi (br_t (fd_bn0 hq) (nm_r (nI_1 i) hp)))
    · exact br_t rfl (nm_r (nI_1 i) hp)
    · exact br_t rfl (nm_r (nI_1 i) hp)
    · exact br_t rfl (nm_r (nI_1 i) hp)
  · intro e
    have := h b s hT
    rw [e] at this
    exact this
  · intro e
    have := h b s hT
    rw [e] at this
    exact this
theorem yc_implied {post : Int32 → SY → Prop} (hY : fd_BY n c w aL aR aC aT aW aS) {a : Nat} (ha : a < 10 + 2 * n) (h : ∀ b s : Nat → Int32, fd_tab n aL aR aC b s → post (fd_b (!(fd_ex (fun p => !(fd_lh p (nI a)) && fd_ps aL aR aC aT n c p) (32 * 2 ^ n) 0))) (nI n, nI c, nI l, nI n, aL, aR, aC, aT, aD, aE, b, s, aP)) : wpY_implied post (nI n, nI c, nI l, w, aL, aR, aC, aT, aD, aE, aW, aS, aP) (nI a) := by
  have hn := hY.1.1
  have h2 := fd_2n hn
  unfold wpY_implied
  dsimp only
  refine yc_isLit hn (nI a) (fun _ => br_f (by decide) ?_) (fun z => (z ⟨a, ha, rfl⟩).elim)
  refine yc_all hY (fun b s hT => ?_)
  dsimp only
  have key := fd_look (fun N i => wY_implied_17 post (nI a) (nI (32 * 2 ^ n)) (nI n) (nI c) (nI l) (nI n) aL aR aC aT aD aE b s aP N (nI i)) (fun p => !(fd_lh p (nI a)) && fd_ps aL aR aC aT n c p) (32 * 2 ^ n) (post 0 (nI n, nI c, nI l, nI n, aL, aR, aC, aT, aD, aE, b, s, aP)) (post 1 (nI n, nI c, nI l, nI n, aL, aR, aC, aT, aD, aE, b, s, aP)) ?_ ?_ ?_ (32 * 2 ^ n) 0 (by omega) ?_ ?_
  · exact ⟨_, key⟩
  · intro N hp
    exact pk_le (32 * 2 ^ n) (32 * 2 ^ n) (fun _ => hp) (fun z => by omega)
  · intro N i hi hq hp
    rw [Bool.and_eq_true, Bool.not_eq_true'] at hq
    exact pk_le (32 * 2 ^ n) i (fun z => by omega) (fun _ => yc_holds (by omega) (br_t (fd_bn0 hq.1) (yc_pos hn hY.2.1 hY.2.2.1 hT hi (br_f (fd_bn1 hq.2) hp))))
  · intro N i hi hq hp
    refine pk_le (32 * 2 ^ n) i (fun z => by omega) (fun _ => yc_holds (by omega) ?_)
    cases z : fd_lh i (nI a) with
    | true => exact br_f (by decide) (nm_r (nI_1 i) hp)
    | false =>
      rw [z] at hq
      exact br_t rfl (yc_pos hn hY.2.1 hY.2.2.1 hT hi (br_t (fd_bn0 hq) (nm_r (nI_1 i) hp)))
  · intro e
    have := h b s hT
    rw [e] at this
    exact this
  · intro e
    have := h b s hT
    rw [e] at this
    exact this
end
