/-! the component's matrix -/
section
variable {n c l : Nat} {aL aR aC aY aN aD aE aP aQ aB : Nat → Int32}
def fd_D (n : Nat) (aL aR aC : Nat → Int32) : Prop := n ≤ 5 ∧ ∀ d, (∃ i : Nat, i < 5 ∧ aL d = nI i) ∧ (∃ j : Nat, j < 5 ∧ aR d = nI j) ∧ -1000 ≤ (aC d).toInt ∧ (aC d).toInt ≤ 1000
theorem fd_ix (i j : Nat) : nI i * 5 + nI j = nI (5 * i + j) := by
  show nI i * nI 5 + nI j = _
  rw [pk_mul, nI_add, Nat.mul_comm]
theorem fd_ixI {i j : Nat} (hi : i < 5) (hj : j < 5) : vp_in (nI i * 5 + nI j) 25 := by
  rw [fd_ix]
  exact vp_in_nI (by omega) (by omega)
theorem fd_ixC {i j : Nat} (hi : i < 5) (hj : j < 5) : (nI i * 5 + nI j).toNatClampNeg = 5 * i + j := by
  rw [fd_ix]
  exact nI_clamp (by omega)
theorem fd_leI {x y : Int32} : x ≤ y ↔ x.toInt ≤ y.toInt := Int32.le_iff_toInt_le
theorem fd_ltI {x y : Int32} : x < y ↔ x.toInt < y.toInt := Int32.lt_iff_toInt_lt
theorem fd_z0 : (0 : Int32).toInt = 0 := by decide
theorem fd_z9 : (1000000000 : Int32).toInt = 1000000000 := by decide
theorem fd_z6 : (1000000 : Int32).toInt = 1000000 := by decide
theorem fd_eqI {x y : Int32} : x = y ↔ x.toInt = y.toInt := Int32.toInt_inj.symm
def fd_gX (b : Nat → Int32) : Nat → Nat → Int32 := fun i j => b (5 * i + j)
def fd_Bk : Nat → Int
  | 0 => 1001
  | k + 1 => 2 * fd_Bk k
theorem fd_BkB : ∀ i, i < 5 → 0 ≤ fd_Bk i ∧ fd_Bk i ≤ 16016 := by decide
theorem xc_clear {post : SX → Prop} (h : ∀ b : Nat → Int32, (∀ i j, i < 5 → j < 5 → (b (5 * i + j)).toInt = if i = j then 0 else 1000000000) → post (nI n, nI c, nI l, aL, aR, aC, aY, aN, aD, aE, aP, aQ, b)) : wpX_clearBounds post (nI n, nI c, nI l, aL, aR, aC, aY, aN, aD, aE, aP, aQ, aB) := by
  refine loop_0 (fun N i (b : Nat → Int32) => wX_clearBounds_2 post (nI n) (nI c) (nI l) N (nI i) aL aR aC aY aN aD aE aP aQ b) (fun i b => ∀ a j, a < i → j < 5 → (b (5 * a + j)).toInt = if a = j then 0 else 1000000000) 5 aB (fun a j ha => by omega) ?_ ?_
  · intro N b hb
    exact pk_le 5 5 (fun _ => h b hb) (fun z => by omega)
  · intro N i b hi hb next
    refine pk_le 5 i (fun z => by omega) (fun _ => ?_)
    refine loop_0 (fun M j (b : Nat → Int32) => wX_clearBounds_9 post (wX_clearBounds_2 post (nI n) (nI c) (nI l) N) (nI i) (nI n) (nI c) (nI l) M (nI j) aL aR aC aY aN aD aE aP aQ b) (fun k b => (∀ a j, a < i → j < 5 → (b (5 * a + j)).toInt = if a = j then 0 else 1000000000) ∧ ∀ j, j < k → (b (5 * i + j)).toInt = if i = j then 0 else 1000000000) 5 b ⟨hb, fun j hj => by omega⟩ ?_ ?_
    · intro M b' hb'
      refine pk_le 5 5 (fun _ => nm_r (nI_1 i) (next b' ?_)) (fun z => by omega)
      intro a j ha hj
      by_cases e : a = i
      · subst e
        exact hb'.2 j hj
      · exact hb'.1 a j (by omega) hj
    · intro M j b' hj hb' next'
      have put : ∀ v : Int32, v.toInt = (if i = j then 0 else 1000000000) → (∀ a j', a < i → j' < 5 → (upd b' (5 * i + j) v (5 * a + j')).toInt = if a = j' then 0 else 1000000000) ∧ ∀ j', j' < j + 1 → (upd b' (5 * i + j) v (5 * i + j')).toInt = if i = j' then 0 else 1000000000 := by
        intro v hv
        refine ⟨fun a j' ha hj' => ?_, fun j' hj' => ?_⟩
        · rw [pk_un (by omega)]
          exact hb'.1 a j' ha hj'
        · by_cases e : j' = j
          · subst e
            rw [pk_us]
            exact hv
          · rw [pk_un (by omega)]
            exact hb'.2 j' (by omega)
      refine pk_le 5 j (fun z => by omega) (fun _ => pk_eq i j (fun e => ?_) (fun e => ?_))
      · refine ⟨fd_ixI hi hj, nm_r (congrArg (fun k => upd b' k 0) (fd_ixC hi hj)) (nm_r (nI_1 j) (next' _ (put 0 ?_)))⟩
        rw [if_pos e]
        exact fd_z0
      · refine ⟨fd_ixI hi hj, nm_r (congrArg (fun k => upd b' k 1000000000) (fd_ixC hi hj)) (nm_r (nI_1 j) (next' _ (put 1000000000 ?_)))⟩
        rw [if_neg e]
        exact fd_z9
theorem xc_low {post : SX → Prop} {i j : Nat} (hi : i < 5) (hj : j < 5) (v : Int32) (h : ∀ b : Nat → Int32, (v.toInt < (aB (5 * i + j)).toInt → b (5 * i + j) = v) → (¬ v.toInt < (aB (5 * i + j)).toInt → b (5 * i + j) = aB (5 * i + j)) → (∀ k, k ≠ 5 * i + j → b k = aB k) → post (nI n, nI c, nI l, aL, aR, aC, aY, aN, aD, aE, aP, aQ, b)) : wpX_lowerBound post (nI n, nI c, nI l, aL, aR, aC, aY, aN, aD, aE, aP, aQ, aB) (nI i) (nI j) v := by
  refine nm_r (fd_ix i j) ?_
  have e : (nI (5 * i + j)).toNatClampNeg = 5 * i + j := nI_clamp (by omega)
  refine ⟨vp_in_nI (by omega) (by omega), ?_⟩
  rw [e]
  refine br_c (fun z => h aB (fun y => ?_) (fun _ => rfl) (fun _ _ => rfl)) (fun z => ⟨vp_in_nI (by omega) (by omega), nm_e (h _ (fun _ => pk_us) (fun y => ?_) (fun k hk => pk_un hk))⟩)
  · rw [fd_leI] at z
    omega
  · rw [fd_leI] at z
    omega
theorem xc_via {post : SX → Prop} {B : Int} (hB0 : 0 ≤ B) (hB : B ≤ 16016) {o : Option (Nat → Nat → Int)} {m : Nat} (hm : m < 5) (h0 : fd_pc 1000000000 B o (fd_gX aB)) (h : ∀ b : Nat → Int32, fd_pc 1000000000 (2 * B) (fd_vo m o) (fd_gX b) → post (nI n, nI c, nI l, aL, aR, aC, aY, aN, aD, aE, aP, aQ, b)) : wpX_tightenBoundsVia post (nI n, nI c, nI l, aL, aR, aC, aY, aN, aD, aE, aP, aQ, aB) (nI m) := by
  refine loop_0 (fun N i (b : Nat → Int32) => wX_tightenBoundsVia_2 post (nI m) N (nI i) (nI n) (nI c) (nI l) aL aR aC aY aN aD aE aP aQ b) (fun i b => fd_in 1000000000 B o m (fun a _ => a < i) (fd_gX b)) 5 aB (fd_inCong (fd_begin hm h0) (fun a b _ _ => ⟨fun f => f.elim, fun z => by omega⟩)) ?_ ?_
  · intro N b hb
    exact pk_le 5 5 (fun _ => h b (fd_end hm hB0 (fun a _ ha _ => ha) hb)) (fun z => by omega)
  · intro N i b hi hb next
    refine pk_le 5 i (fun z => by omega) (fun _ => ?_)
    refine loop_0 (fun M j (b : Nat → Int32) => wX_tightenBoundsVia_9 post (wX_tightenBoundsVia_2 post (nI m) N) (nI m) (nI i) M (nI j) (nI n) (nI c) (nI l) aL aR aC aY aN aD aE aP aQ b) (fun j b => fd_in 1000000000 B o m (fun a d => a < i ∨ (a = i ∧ d < j)) (fd_gX b)) 5 b (fd_inCong hb (fun a d _ _ => by omega)) ?_ ?_
    · intro M b' hb'
      exact pk_le 5 5 (fun _ => nm_r (nI_1 i) (next b' (fd_inCong hb' (fun a d _ hd => by omega)))) (fun z => by omega)
    · intro M j b' hj hb' next'
      have fin : ∀ b2 : Nat → Int32, ((fd_gX b2 i j).toInt ≤ (fd_gX b' i j).toInt) → (∀ k, k ≠ 5 * i + j → b2 k = b' k) → ((((fd_gX b' i m).toInt ≠ 1000000000 ∧ (fd_gX b' m j).toInt ≠ 1000000000 ∧ (fd_gX b' i m + fd_gX b' m j).toInt < (fd_gX b' i j).toInt) → fd_gX b2 i j = fd_gX b' i m + fd_gX b' m j) ∧
      (¬ ((fd_gX b' i m).toInt ≠ 1000000000 ∧ (fd_gX b' m j).toInt ≠ 1000000000 ∧ (fd_gX b' i m + fd_gX b' m j).toInt < (fd_gX b' i j).toInt) → fd_gX b2 i j = fd_gX b' i j)) → fd_in 1000000000 B o m (fun a d => a < i ∨ (a = i ∧ d < j + 1)) (fd_gX b2) := by
        intro b2 hle hk hd
        refine fd_inCong (fd_step (by omega) (by omega) hB0 hB hm hb' i j hi hj (fun a d ha hd' ne => hk _ (by omega)) hle (fun _ _ => hd)) (fun a d _ _ => by omega)
      refine pk_le 5 j (fun z => by omega) (fun _ => ⟨fd_ixI hi hm, nm_r (congrArg b' (fd_ixC hi hm)) ⟨fd_ixI hm hj, nm_r (congrArg b' (fd_ixC hm hj)) ?_⟩⟩)
      refine br_c (fun z => nm_r (nI_1 j) (next' b' (fin b' (Int.le_refl _) (fun _ _ => rfl) ⟨fun q => (q.1 ?_).elim, fun _ => rfl⟩))) (fun z => br_c (fun z' => nm_r (nI_1 j) (next' b' (fin b' (Int.le_refl _) (fun _ _ => rfl) ⟨fun q => (q.2.1 ?_).elim, fun _ => rfl⟩))) (fun z' => ?_))
      · show (b' (5 * i + m)).toInt = _
        rw [z]; exact fd_z9
      · show (b' (5 * m + j)).toInt = _
        rw [z']; exact fd_z9
      · refine xc_low hi hj _ (fun b2 h1 h2 h3 => ?_)
        refine nm_r (nI_1 j) (next' b2 (fin b2 ?_ h3 ⟨fun q => h1 q.2.2, fun q => h2 (fun q' => q ⟨fun w => z ?_, fun w => z' ?_, q'⟩)⟩))
        · show (b2 (5 * i + j)).toInt ≤ (b' (5 * i + j)).toInt
          by_cases t : (b' (5 * i + m) + b' (5 * m + j)).toInt < (b' (5 * i + j)).toInt
          · rw [h1 t]
            exact Int.le_of_lt t
          · rw [h2 t]
            exact Int.le_refl _
        · rw [fd_eqI, fd_z9]; exact w
        · rw [fd_eqI, fd_z9]; exact w
theorem xc_below {post : Int32 → Prop} (h1 : fd_bad (fd_gX aB) → post 1) (h0 : ¬ fd_bad (fd_gX aB) → post 0) : wpX_isAnyVariableBelowItself post (nI n, nI c, nI l, aL, aR, aC, aY, aN, aD, aE, aP, aQ, aB) := by
  have key := fd_look (fun N i => wX_isAnyVariableBelowItself_2 post (nI n) (nI c) (nI l) aL aR aC aY aN aD aE aP aQ aB N (nI i)) (fun i => decide ((aB (5 * i + i)).toInt < 0)) 5 (post 1) (post 0) ?_ ?_ ?_ 5 0 rfl ?_ ?_
  · exact ⟨6, key⟩
  · intro N hp
    exact pk_le 5 5 (fun _ => hp) (fun z => by omega)
  · intro N i hi hq hp
    refine pk_le 5 i (fun z => by omega) (fun _ => ⟨fd_ixI hi hi, br_f ?_ hp⟩)
    rw [fd_ixC hi hi, fd_leI, fd_z0]
    have := of_decide_eq_true hq
    omega
  · intro N i hi hq hp
    refine pk_le 5 i (fun z => by omega) (fun _ => ⟨fd_ixI hi hi, br_t ?_ (nm_r (nI_1 i) hp)⟩)
    rw [fd_ixC hi hi, fd_leI, fd_z0]
    have := of_decide_eq_false hq
    omega
  · intro e
    obtain ⟨i, _, hi, hq⟩ := (fd_exI 5 0).1 e
    exact h1 ⟨i, by omega, of_decide_eq_true hq⟩
  · intro e
    refine h0 (fun ⟨i, hi, hb⟩ => ?_)
    have := (fd_exI (q := fun i => decide ((aB (5 * i + i)).toInt < 0)) 5 0).2 ⟨i, by omega, by omega, decide_eq_true hb⟩
    rw [e] at this
    exact nomatch this
theorem xc_t81 {post : Int32 → SX → Prop} {o : Option (Nat → Nat → Int)} (h0 : fd_pc 1000000000 1001 o (fd_gX aB)) (h : ∀ b : Nat → Int32, (∀ P, fd_fin (fd_vn o 5) = some P → ∀ i j, i < 5 → j < 5 → fd_gw 1000000000 (P i j) (b (5 * i + j))) → post (fd_b (fd_fin (fd_vn o 5)).isSome) (nI n, nI c, nI l, aL, aR, aC, aY, aN, aD, aE, aP, aQ, b)) : ∃ N, wX_tightenBounds_81 post N 0 (nI n) (nI c) (nI l) aL aR aC aY aN aD aE aP aQ aB := by
  refine loop_0 (fun N i (b : Nat → Int32) => wX_tightenBounds_81 post N (nI i) (nI n) (nI c) (nI l) aL aR aC aY aN aD aE aP aQ b) (fun i b => fd_pc 1000000000 (fd_Bk i) (fd_vn o i) (fd_gX b)) 5 aB h0 ?_ ?_
  · intro N b hb
    obtain ⟨k1, k2⟩ := fd_finB (by omega) hb
    refine pk_le 5 5 (fun _ => xc_below (fun z => br_f (by decide) ?_) (fun z => br_t rfl ?_)) (fun z => by omega)
    · have := h b k2
      rw [k1.1 z] at this
      exact this
    · have := h b k2
      have e : (fd_fin (fd_vn o 5)).isSome = true := by
        cases q : fd_fin (fd_vn o 5) with
        | none => exact (z (k1.2 q)).elim
        | some P => rfl
      rw [e] at this
      exact this
  · intro N i b hi hb next
    refine pk_le 5 i (fun z => by omega) (fun _ => xc_via (B := fd_Bk i) (o := fd_vn o i) ?_ ?_ hi hb (fun b' hb' => nm_r (nI_1 i) (next b' ?_)))
    · exact (fd_BkB i hi).1
    · exact (fd_BkB i hi).2
    · exact hb'
theorem fd_cneg {v : Int32} (h1 : -1000 ≤ v.toInt) (h2 : v.toInt ≤ 1000) : (-v - 1).toInt = -v.toInt - 1 := by
  rw [Int32.toInt_sub, Int32.toInt_neg, show (1 : Int32).toInt = 1 from by decide]
  rw [Int.bmod_eq_of_le (n := -v.toInt) (by omega) (by omega)]
  exact Int.bmod_eq_of_le (by omega) (by omega)
theorem xc_tighten {post : Int32 → SX → Prop} (hD : fd_D n aL aR aC) (ch : Nat) (h : ∀ b : Nat → Int32, (∀ P, fd_rs aL aR aC n ch = some P → ∀ i j, i < 5 → j < 5 → fd_gw 1000000000 (P i j) (b (5 * i + j))) → post (fd_b (fd_rs aL aR aC n ch).isSome) (nI n, nI c, nI l, aL, aR, aC, aY, aN, aD, aE, aP, aQ, b)) : wpX_tightenBounds post (nI n, nI c, nI l, aL, aR, aC, aY, aN, aD, aE, aP, aQ, aB) (nI ch) := by
  obtain ⟨hn, hd⟩ := hD
  refine xc_clear (fun b0 hb0 => ?_)
  refine loop_0 (fun N i (b : Nat → Int32) => wX_tightenBounds_6 post (nI ch) N (nI i) (nI n) (nI c) (nI l) aL aR aC aY aN aD aE aP aQ b) (fun i b => fd_pc 1000000000 1001 (some (fd_ini (fun d => (aL d).toNatClampNeg) (fun d => (aR d).toNatClampNeg) (fun d => (aC d).toInt) ch i)) (fd_gX b)) n b0 (fd_pc0 (by omega) hb0) ?_ ?_
  · intro N b hb
    exact pk_le n n (fun _ => xc_t81 hb h) (fun z => by omega)
  · intro N i b hi hb next
    have ec : (nI i).toNatClampNeg = i := nI_clamp (by omega)
    have hin : vp_in (nI i) 5 := vp_in_nI (by omega) (by omega)
    obtain ⟨⟨li, hli, eL⟩, ⟨ri, hri, eR⟩, hc1, hc2⟩ := hd i
    have cL : (aL i).toNatClampNeg = li := by rw [eL]; exact nI_clamp (by omega)
    have cR : (aR i).toNatClampNeg = ri := by rw [eR]; exact nI_clamp (by omega)
    refine pk_le n i (fun z => by omega) (fun _ => ?_)
    rw [fd_bitN ch (by omega)]
    by_cases t : ch.testBit i = true
    · rw [if_pos t]
      refine br_t rfl ⟨hin, hin, hin, ?_⟩
      rw [ec, eL, eR]
      refine xc_low hli hri _ (fun b2 h1 h2 h3 => nm_r (nI_1 i) (next b2 ?_))
      have e : fd_ini (fun d => (aL d).toNatClampNeg) (fun d => (aR d).toNatClampNeg) (fun d => (aC d).toInt) ch (i + 1) = fd_put (fd_ini (fun d => (aL d).toNatClampNeg) (fun d => (aR d).toNatClampNeg) (fun d => (aC d).toInt) ch i) li ri (aC i).toInt := by
        show (if ch.testBit i = true then _ else _) = _
        rw [if_pos t]
        show fd_put _ (aL i).toNatClampNeg (aR i).toNatClampNeg _ = _
        rw [cL, cR]
      rw [e]
      exact fd_pcPut (by omega) hb li ri hli hri (aC i) (by omega) (by omega) (fun a d ha hd' ne => h3 _ (by omega)) h1 h2
    · rw [if_neg t]
      refine br_f (by decide) ⟨hin, hin, hin, ?_⟩
      rw [ec, eL, eR]
      have en := fd_cneg hc1 hc2
      refine xc_low hri hli _ (fun b2 h1 h2 h3 => nm_r (nI_1 i) (next b2 ?_))
      have e : fd_ini (fun d => (aL d).toNatClampNeg) (fun d => (aR d).toNatClampNeg) (fun d => (aC d).toInt) ch (i + 1) = fd_put (fd_ini (fun d => (aL d).toNatClampNeg) (fun d => (aR d).toNatClampNeg) (fun d => (aC d).toInt) ch i) ri li (-(aC i) - 1).toInt := by
        show (if ch.testBit i = true then _ else _) = _
        rw [if_neg t, en]
        show fd_put _ (aR i).toNatClampNeg (aL i).toNatClampNeg _ = _
        rw [cL, cR]
      rw [e]
      exact fd_pcPut (by omega) hb ri li hri hli (-(aC i) - 1) (by omega) (by omega) (fun a d ha hd' ne => h3 _ (by omega)) h1 h2
end
