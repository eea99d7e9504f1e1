/-! the reference's matrix: way[25 ch + 5 j + i] -/
section
variable {n c l : Nat} {w : Int32} {aL aR aC aT aD aE aW aS aP : Nat → Int32}
def fd_gY (off : Nat) (b : Nat → Int32) : Nat → Nat → Int32 := fun i j => b (off + 5 * j + i)
theorem yc_bound {post : SY → Prop} {k : Nat} (hk : k < 800) (v : Int32) (h : ∀ b : Nat → Int32, (v.toInt < (aW k).toInt → b k = v) → (¬ v.toInt < (aW k).toInt → b k = aW k) → (∀ k', k' ≠ k → b k' = aW k') → post (nI n, nI c, nI l, w, aL, aR, aC, aT, aD, aE, b, aS, aP)) : wpY_bound post (nI n, nI c, nI l, w, aL, aR, aC, aT, aD, aE, aW, aS, aP) (nI k) v := by
  have e : (nI k).toNatClampNeg = k := nI_clamp (by omega)
  refine ⟨vp_in_nI hk (by omega), ?_⟩
  rw [e]
  refine br_c (fun z => h aW (fun y => ?_) (fun _ => rfl) (fun _ _ => rfl)) (fun z => ⟨vp_in_nI hk (by omega), nm_e (h _ (fun _ => pk_us) (fun y => ?_) (fun k hk => pk_un hk))⟩)
  · rw [fd_leI] at z
    omega
  · rw [fd_leI] at z
    omega
theorem fd_5 (a : Nat) : 5 * nI a = nI (5 * a) := pk_mul 5 a
theorem fd_6 (a : Nat) : 6 * nI a = nI (6 * a) := pk_mul 6 a
theorem fd_25 (a : Nat) : 25 * nI a = nI (25 * a) := pk_mul 25 a
theorem yc_w216 {post : Int32 → SY → Prop} {off : Nat} (hoff : off ≤ 775) (h1 : fd_bad (fd_gY off aW) → post 0 (nI n, nI c, nI l, w, aL, aR, aC, aT, aD, aE, aW, aS, aP)) (h0 : ¬ fd_bad (fd_gY off aW) → post 1 (nI n, nI c, nI l, w, aL, aR, aC, aT, aD, aE, aW, aS, aP)) : ∃ N, wY_ways_216 post (nI off) (nI n) (nI c) (nI l) w aL aR aC aT aD aE aW aS aP N 0 := by
  have ei : ∀ i, nI off + 6 * nI i = nI (off + 5 * i + i) := by
    intro i
    rw [fd_6, nI_add]
    exact congrArg nI (by omega)
  have key := fd_look (fun N i => wY_ways_216 post (nI off) (nI n) (nI c) (nI l) w aL aR aC aT aD aE aW aS aP N (nI i)) (fun i => decide ((aW (off + 5 * i + i)).toInt < 0)) 5 (post 0 (nI n, nI c, nI l, w, aL, aR, aC, aT, aD, aE, aW, aS, aP)) (post 1 (nI n, nI c, nI l, w, aL, aR, aC, aT, aD, aE, aW, aS, aP)) ?_ ?_ ?_ 5 0 rfl ?_ ?_
  · exact ⟨6, key⟩
  · intro N hp
    exact pk_le 5 5 (fun _ => hp) (fun z => by omega)
  · intro N i hi hq hp
    refine pk_le 5 i (fun z => by omega) (fun _ => ?_)
    rw [ei i]
    refine ⟨vp_in_nI (by omega) (by omega), br_f ?_ hp⟩
    rw [nI_clamp (by omega), fd_leI, fd_z0]
    have := of_decide_eq_true hq
    omega
  · intro N i hi hq hp
    refine pk_le 5 i (fun z => by omega) (fun _ => ?_)
    rw [ei i]
    refine ⟨vp_in_nI (by omega) (by omega), br_t ?_ (nm_r (nI_1 i) hp)⟩
    rw [nI_clamp (by omega), fd_leI, fd_z0]
    have := of_decide_eq_false hq
    omega
  · intro e
    obtain ⟨i, _, hi, hq⟩ := (fd_exI 5 0).1 e
    exact h1 ⟨i, by omega, of_decide_eq_true hq⟩
  · intro e
    refine h0 (fun ⟨i, hi, hb⟩ => ?_)
    have := (fd_exI (q := fun i => decide ((aW (off + 5 * i + i)).toInt < 0)) 5 0).2 ⟨i, by omega, by omega, decide_eq_true hb⟩
    rw [e] at this
    exact nomatch this
def fd_fr (off : Nat) (b b' : Nat → Int32) : Prop := ∀ k, k < off ∨ off + 25 ≤ k → b' k = b k
theorem yc_w134 {post : Int32 → SY → Prop} {J : Int32 → Int32 → Int32 → Int32 → Int32 → (Nat → Int32) → (Nat → Int32) → (Nat → Int32) → (Nat → Int32) → (Nat → Int32) → (Nat → Int32) → (Nat → Int32) → (Nat → Int32) → (Nat → Int32) → Prop} {off : Nat} (hoff : off ≤ 775) {B : Int} (hB0 : 0 ≤ B) (hB : B ≤ 16016) {o : Option (Nat → Nat → Int)} {m : Nat} (hm : m < 5) (h0 : fd_pc 1000000 B o (fd_gY off aW)) (h : ∀ b : Nat → Int32, fd_fr off aW b → fd_pc 1000000 (2 * B) (fd_vo m o) (fd_gY off b) → J (nI (m + 1)) (nI n) (nI c) (nI l) w aL aR aC aT aD aE b aS aP) : ∃ N, wY_ways_134 post J (nI off) (nI m) N 0 (nI n) (nI c) (nI l) w aL aR aC aT aD aE aW aS aP := by
  refine loop_0 (fun N k (b : Nat → Int32) => wY_ways_134 post J (nI off) (nI m) N (nI k) (nI n) (nI c) (nI l) w aL aR aC aT aD aE b aS aP) (fun k b => fd_fr off aW b ∧ fd_in 1000000 B o m (fun a d => 5 * d + a < k) (fd_gY off b)) 25 aW ⟨fun _ _ => rfl, fd_inCong (fd_begin hm h0) (fun a b _ _ => ⟨fun f => f.elim, fun z => by omega⟩)⟩ ?_ ?_
  · intro N b hb
    exact pk_le 25 25 (fun _ => nm_r (nI_1 m) (h b hb.1 (fd_end hm hB0 (fun a d ha hd => by omega) hb.2))) (fun z => by omega)
  · intro N k b' hk hb' next'
    obtain ⟨hfr, hin⟩ := hb'
    obtain ⟨i, hi, ek5⟩ : ∃ i, i < 5 ∧ k % 5 = i := ⟨k % 5, by omega, rfl⟩
    obtain ⟨j, hj, ekd⟩ : ∃ j, j < 5 ∧ k / 5 = j := ⟨k / 5, by omega, rfl⟩
    have ek : k = 5 * j + i := by omega
    have e1 : nI off + 5 * (nI k / 5) + nI m = nI (off + 5 * j + m) := by
      rw [show nI k / 5 = nI (k / 5) from pk_div (d := 5) (by omega) (by omega) (by omega), ekd, fd_5, nI_add, nI_add]
    have e2 : nI off + 5 * nI m + (nI k - nI k / 5 * 5) = nI (off + 5 * m + i) := by
      rw [show nI k - nI k / 5 * 5 = nI (k % 5) from pk_rem (d := 5) (by omega) (by omega) (by omega), ek5, fd_5, nI_add, nI_add]
    have e3 : nI off + nI k = nI (off + 5 * j + i) := by
      rw [nI_add]
      exact congrArg nI (by omega)
    have fin : ∀ b2 : Nat → Int32, ((fd_gY off b2 i j).toInt ≤ (fd_gY off b' i j).toInt) → (∀ k', k' ≠ off + 5 * j + i → b2 k' = b' k') →
      (((fd_gY off b' i m).toInt = 1000000 ∨ (fd_gY off b' i m).toInt ≤ 32032) → ((fd_gY off b' m j).toInt = 1000000 ∨ (fd_gY off b' m j).toInt ≤ 32032) → (((fd_gY off b' i m).toInt ≠ 1000000 ∧ (fd_gY off b' m j).toInt ≠ 1000000 ∧ (fd_gY off b' i m + fd_gY off b' m j).toInt < (fd_gY off b' i j).toInt) → fd_gY off b2 i j = fd_gY off b' i m + fd_gY off b' m j) ∧
      (¬ ((fd_gY off b' i m).toInt ≠ 1000000 ∧ (fd_gY off b' m j).toInt ≠ 1000000 ∧ (fd_gY off b' i m + fd_gY off b' m j).toInt < (fd_gY off b' i j).toInt) → fd_gY off b2 i j = fd_gY off b' i j)) → fd_fr off aW b2 ∧ fd_in 1000000 B o m (fun a d => 5 * d + a < k + 1) (fd_gY off b2) := by
      intro b2 hle hk' hd
      refine ⟨fun k' hk2 => ?_, fd_inCong (fd_step (by omega) (by omega) hB0 hB hm hin i j hi hj (fun a d ha hd' ne => hk' _ (by omega)) hle hd) (fun a d _ _ => by omega)⟩
      rw [hk' k' (by omega)]
      exact hfr k' hk2
    refine pk_le 25 k (fun z => by omega) (fun _ => ⟨by decide, ?_⟩)
    rw [e1]
    refine ⟨vp_in_nI (by omega) (by omega), nm_r (congrArg b' (nI_clamp (by omega))) ⟨by decide, ?_⟩⟩
    rw [e2, e3]
    refine ⟨vp_in_nI (by omega) (by omega), nm_r (congrArg b' (nI_clamp (by omega))) ?_⟩
    refine br_c (fun z => nm_r (nI_1 k) (next' b' (fin b' (Int.le_refl _) (fun _ _ => rfl) (fun g1 g2 => ⟨fun q => ?_, fun _ => rfl⟩)))) (fun z => br_c (fun z' => nm_r (nI_1 k) (next' b' (fin b' (Int.le_refl _) (fun _ _ => rfl) (fun g1 g2 => ⟨fun q => ?_, fun _ => rfl⟩)))) (fun z' => ?_))
    · rw [fd_leI, fd_z6] at z
      have g2' : (b' (off + 5 * j + m)).toInt = 1000000 ∨ (b' (off + 5 * j + m)).toInt ≤ 32032 := g2
      have q2 : (b' (off + 5 * j + m)).toInt ≠ 1000000 := q.2.1
      omega
    · rw [fd_leI, fd_z6] at z'
      have g2' : (b' (off + 5 * m + i)).toInt = 1000000 ∨ (b' (off + 5 * m + i)).toInt ≤ 32032 := g1
      have q2 : (b' (off + 5 * m + i)).toInt ≠ 1000000 := q.1
      omega
    · rw [fd_leI, fd_z6] at z z'
      refine yc_bound (by omega) _ (fun b2 h1 h2 h3 => ?_)
      rw [Int32.add_comm] at h1 h2
      refine nm_r (nI_1 k) (next' b2 (fin b2 ?_ h3 (fun g1 g2 => ⟨fun q => h1 q.2.2, fun q => h2 (fun q' => q ⟨fun e => z' ?_, fun e => z ?_, q'⟩)⟩)))
      · show (b2 (off + 5 * j + i)).toInt ≤ (b' (off + 5 * j + i)).toInt
        by_cases t : (b' (off + 5 * m + i) + b' (off + 5 * j + m)).toInt < (b' (off + 5 * j + i)).toInt
        · rw [h1 t]
          exact Int.le_of_lt t
        · rw [h2 t]
          exact Int.le_refl _
      · have e' : (b' (off + 5 * m + i)).toInt = 1000000 := e
        omega
      · have e' : (b' (off + 5 * j + m)).toInt = 1000000 := e
        omega
theorem yc_w126 {post : Int32 → SY → Prop} {off : Nat} (hoff : off ≤ 775) {o : Option (Nat → Nat → Int)} (h0 : fd_pc 1000000 1001 o (fd_gY off aW)) (h : ∀ b : Nat → Int32, fd_fr off aW b → (∀ P, fd_fin (fd_vn o 5) = some P → ∀ i j, i < 5 → j < 5 → fd_gw 1000000 (P i j) (b (off + 5 * j + i))) → post (fd_b (fd_fin (fd_vn o 5)).isSome) (nI n, nI c, nI l, w, aL, aR, aC, aT, aD, aE, b, aS, aP)) : ∃ N, wY_ways_126 post (nI off) N 0 (nI n) (nI c) (nI l) w aL aR aC aT aD aE aW aS aP := by
  refine loop_0 (fun N i (b : Nat → Int32) => wY_ways_126 post (nI off) N (nI i) (nI n) (nI c) (nI l) w aL aR aC aT aD aE b aS aP) (fun i b => fd_fr off aW b ∧ fd_pc 1000000 (fd_Bk i) (fd_vn o i) (fd_gY off b)) 5 aW ⟨fun _ _ => rfl, h0⟩ ?_ ?_
  · intro N b hb
    obtain ⟨k1, k2⟩ := fd_finB (by omega) hb.2
    refine pk_le 5 5 (fun _ => yc_w216 hoff (fun z => ?_) (fun z => ?_)) (fun z => by omega)
    · have := h b hb.1 k2
      rw [k1.1 z] at this
      exact this
    · have := h b hb.1 k2
      have e : (fd_fin (fd_vn o 5)).isSome = true := by
        cases q : fd_fin (fd_vn o 5) with
        | none => exact (z (k1.2 q)).elim
        | some P => rfl
      rw [e] at this
      exact this
  · intro N i b hi hb next
    refine pk_le 5 i (fun z => by omega) (fun _ => yc_w134 (B := fd_Bk i) (o := fd_vn o i) hoff ?_ ?_ hi hb.2 (fun b' hf hb' => next b' ⟨fun k hk => (hf k hk).trans (hb.1 k hk), ?_⟩))
    · exact (fd_BkB i hi).1
    · exact (fd_BkB i hi).2
    · exact hb'
theorem fd_cnegY {v : Int32} (h1 : -1000 ≤ v.toInt) (h2 : v.toInt ≤ 1000) : (-1 - v).toInt = -v.toInt - 1 := by
  rw [Int32.toInt_sub, show (-1 : Int32).toInt = -1 from by decide]
  rw [Int.bmod_eq_of_le (by omega) (by omega)]
  omega
theorem yc_ways {post : Int32 → SY → Prop} (hD : fd_D n aL aR aC) {ch : Nat} (hch : ch < 32) (h : ∀ b : Nat → Int32, fd_fr (25 * ch) aW b → (∀ P, fd_rs aL aR aC n ch = some P → ∀ i j, i < 5 → j < 5 → fd_gw 1000000 (P i j) (b (25 * ch + 5 * j + i))) → post (fd_b (fd_rs aL aR aC n ch).isSome) (nI n, nI c, nI l, w, aL, aR, aC, aT, aD, aE, b, aS, aP)) : wpY_ways post (nI n, nI c, nI l, w, aL, aR, aC, aT, aD, aE, aW, aS, aP) (nI ch) := by
  obtain ⟨hn, hd⟩ := hD
  refine nm_r (fd_25 ch) ?_
  obtain ⟨off, eoff⟩ : ∃ off, off = 25 * ch := ⟨_, rfl⟩
  rw [← eoff]
  have hoff : off ≤ 775 := by omega
  rw [← eoff] at h
  refine loop_0 (fun N k (b : Nat → Int32) => wY_ways_7 post (nI ch) (nI off) (nI n) (nI c) (nI l) w N (nI k) aL aR aC aT aD aE b aS aP) (fun k b => fd_fr off aW b ∧ ∀ k', k' < k → (b (off + k')).toInt = if k' % 6 = 0 then 0 else 1000000) 25 aW ⟨fun _ _ => rfl, fun k' hk' => by omega⟩ ?_ ?_
  · intro N b0 hb0
    refine pk_le 25 25 (fun _ => ?_) (fun z => by omega)
    refine loop_0 (fun N i (b : Nat → Int32) => wY_ways_42 post (nI ch) (nI off) N (nI i) (nI n) (nI c) (nI l) w aL aR aC aT aD aE b aS aP) (fun i b => fd_fr off aW b ∧ fd_pc 1000000 1001 (some (fd_ini (fun d => (aL d).toNatClampNeg) (fun d => (aR d).toNatClampNeg) (fun d => (aC d).toInt) ch i)) (fd_gY off b)) n b0 ⟨hb0.1, fd_pc0 (by omega) ?_⟩ ?_ ?_
    · intro i j hi hj
      show (b0 (off + 5 * j + i)).toInt = _
      have := hb0.2 (5 * j + i) (by omega)
      rw [← Nat.add_assoc] at this
      rw [this]
      by_cases e : i = j
      · rw [if_pos e, if_pos (by omega)]
      · rw [if_neg e, if_neg (by omega)]
    · intro N b hb
      exact pk_le n n (fun _ => yc_w126 hoff hb.2 (fun b' hf hg => h b' (fun k hk => (hf k hk).trans (hb.1 k hk)) hg)) (fun z => by omega)
    · intro N i b hi hb next
      have ec : (nI i).toNatClampNeg = i := nI_clamp (by omega)
      have hin : vp_in (nI i) 5 := vp_in_nI (by omega) (by omega)
      obtain ⟨⟨li, hli, eL⟩, ⟨ri, hri, eR⟩, hc1, hc2⟩ := hd i
      have cL : (aL i).toNatClampNeg = li := by rw [eL]; exact nI_clamp (by omega)
      have cR : (aR i).toNatClampNeg = ri := by rw [eR]; exact nI_clamp (by omega)
      have fr : ∀ (b2 : Nat → Int32) (k0 : Nat), off ≤ k0 → k0 < off + 25 → (∀ k', k' ≠ k0 → b2 k' = b k') → fd_fr off aW b2 := by
        intro b2 k0 q1 q2 q3 k hk
        rw [q3 k (by omega)]
        exact hb.1 k hk
      refine pk_le n i (fun z => by omega) (fun _ => ?_)
      rw [fd_bitN ch (by omega)]
      by_cases t : ch.testBit i = true
      · rw [if_pos t]
        refine br_t rfl ⟨hin, hin, hin, ?_⟩
        rw [ec, eL, eR, fd_5, nI_add, nI_add]
        refine yc_bound (by omega) _ (fun b2 h1 h2 h3 => nm_r (nI_1 i) (next b2 ⟨fr b2 _ (by omega) (by omega) h3, ?_⟩))
        have e : fd_ini (fun d => (aL d).toNatClampNeg) (fun d => (aR d).toNatClampNeg) (fun d => (aC d).toInt) ch (i + 1) = fd_put (fd_ini (fun d => (aL d).toNatClampNeg) (fun d => (aR d).toNatClampNeg) (fun d => (aC d).toInt) ch i) li ri (aC i).toInt := by
          show (if ch.testBit i = true then _ else _) = _
          rw [if_pos t]
          show fd_put _ (aL i).toNatClampNeg (aR i).toNatClampNeg _ = _
          rw [cL, cR]
        rw [e]
        exact fd_pcPut (by omega) hb.2 li ri hli hri (aC i) (by omega) (by omega) (fun a d ha hd' ne => h3 _ (by omega)) h1 h2
      · rw [if_neg t]
        refine br_f (by decide) ⟨hin, hin, hin, ?_⟩
        rw [ec, eL, eR, fd_5, nI_add, nI_add]
        have en := fd_cnegY hc1 hc2
        generalize -1 - aC i = vv at en ⊢
        refine yc_bound (by omega) _ (fun b2 h1 h2 h3 => nm_r (nI_1 i) (next b2 ⟨fr b2 _ (by omega) (by omega) h3, ?_⟩))
        have e : fd_ini (fun d => (aL d).toNatClampNeg) (fun d => (aR d).toNatClampNeg) (fun d => (aC d).toInt) ch (i + 1) = fd_put (fd_ini (fun d => (aL d).toNatClampNeg) (fun d => (aR d).toNatClampNeg) (fun d => (aC d).toInt) ch i) ri li vv.toInt := by
          show (if ch.testBit i = true then _ else _) = _
          rw [if_neg t, en]
          show fd_put _ (aR i).toNatClampNeg (aL i).toNatClampNeg _ = _
          rw [cL, cR]
        rw [e]
        exact fd_pcPut (by omega) hb.2 ri li hri hli vv (by omega) (by omega) (fun a d ha hd' ne => h3 _ (by omega)) h1 h2
  · intro N k b hk hb next
    have e3 : nI off + nI k = nI (off + k) := nI_add _ _
    have put : ∀ v : Int32, v.toInt = (if k % 6 = 0 then 0 else 1000000) → fd_fr off aW (upd b (off + k) v) ∧ ∀ k', k' < k + 1 → (upd b (off + k) v (off + k')).toInt = if k' % 6 = 0 then 0 else 1000000 := by
      intro v hv
      refine ⟨fun k' hk' => ?_, fun k' hk' => ?_⟩
      · rw [pk_un (by omega)]
        exact hb.1 k' hk'
      · by_cases e : k' = k
        · subst e
          rw [pk_us]
          exact hv
        · rw [pk_un (by omega)]
          exact hb.2 k' (by omega)
    refine pk_le 25 k (fun z => by omega) (fun _ => ⟨by decide, ?_⟩)
    rw [show nI k - nI k / 6 * 6 = nI (k % 6) from pk_rem (d := 6) (by omega) (by omega) (by omega), e3]
    refine pk_eq (k % 6) 0 (fun e => ?_) (fun e => ?_)
    · refine ⟨vp_in_nI (by omega) (by omega), nm_r (congrArg (fun q => upd b q 0) (nI_clamp (by omega))) (nm_r (nI_1 k) (next _ (put 0 ?_)))⟩
      rw [if_pos e]
      exact fd_z0
    · refine ⟨vp_in_nI (by omega) (by omega), nm_r (congrArg (fun q => upd b q 1000000) (nI_clamp (by omega))) (nm_r (nI_1 k) (next _ (put 1000000 ?_)))⟩
      rw [if_neg e]
      exact fd_z6
end
