theorem laid {now : Sm} {st : Nat → Int32} (h : SR now st 0) (r md : Rd) : GD 11 (aS now now.2.2.2.1) ∧ CL (F_X2_layTheRound now r) (aS now now.2.2.2.1) ∧ ML (F_X3_layTaken st md).2 (aS now now.2.2.2.1) ∧ ((F_X3_layTaken st md).1 = 0 ↔ zBY (aS now now.2.2.2.1) = 0) ∧ (F_X0_isFlat (F_X2_layTheRound now r) = 0 ↔ ¬ zBY (aS now now.2.2.2.1) = 0) := by
  have h3 : now.2.2.2.1 = st 21 := h.2.2.1
  have hb := h.2.2.2.2.2.1
  have hg := gd_aS h now.2.2.2.1
  have hc : CL (F_X2_layTheRound now r) (aS now now.2.2.2.1) := cl_of h r now.2.2.2.1
  rw [layT_eq, ← h3]
  exact ⟨hg, hc, ml_of h md hb, lay_fst h md hb, flat_iff hg hc⟩
theorem low_A {K u v : Int} {A B V : Nat} (hK : 0 < K) (hv : 0 < v) (bK : BB K A) (bu : BB u B) (bv : BB v V) (h1 : A * B ≤ SMB) (h2 : A * V < 4398046511104) (h3 : B ≤ SMB) (p : Int32) : F_X2_partOfLowest (o64 (K * u)) (o64 (K * v)) p = F_X3_told (o64 u) (o64 v) p := by
  have h4 := bK.mul bv
  unfold BB at h4
  exact low_told hK hv ((bK.mul bu).le h1) (by omega) (bu.le h3) p
section OPS2
variable {now im0 im1 : Sm} {kp : Int32} {st im kt : Nat → Int32}
theorem mid_ok (h : Rel now im0 im1 kp st im kt) (md : Rd) : ¬ (F_X3_layTaken st md).1 = 0 → ¬ 2 * (F_X3_layTaken st md).2.2.2.2.2.2.2.2.2.2.2.2.2 = 0 := by
  obtain ⟨hg, -, hm, h1, -⟩ := laid h.1 (0, 0, 0, 0, 0, 0, 0, 0, 0, 0, 0, 0, 0) md
  intro h2 h3
  rw [hm.1] at h3
  have t2 : (2 : Int64) * o64 (zBY (aS now now.2.2.2.1)) = o64 (2 * zBY (aS now now.2.2.2.1)) := (Int64.ofInt_mul 2 _).symm
  rw [t2, ← Int64.toInt_inj, o_int] at h3
  · have e0 : (0 : Int64).toInt = 0 := by decide
    rw [e0] at h3
    exact h2 (h1.mpr (by omega))
  · have b2 : BB (2 : Int) 2 := Nat.le_refl 2
    exact (b2.mul (bd_BY hg)).le (Nat.le_of_ble_eq_true rfl)
theorem three {p0 : Int32} (h : ¬ F_X3_in p0.toInt64 0 2 = 0) : p0 = 0 ∨ p0 = 1 ∨ p0 = 2 := by
  have h1 := in_ne h
  have e0 : (0 : Int64).toInt = 0 := by decide
  have e1 : (2 : Int64).toInt = 2 := by decide
  rw [Int32.toInt_toInt64, e0, e1] at h1
  rcases (show p0.toInt = 0 ∨ p0.toInt = 1 ∨ p0.toInt = 2 by omega) with h | h | h
  · exact Or.inl (Int32.toInt_inj.mp (by rw [h]; decide))
  · exact Or.inr (Or.inl (Int32.toInt_inj.mp (by rw [h]; decide)))
  · exact Or.inr (Or.inr (Int32.toInt_inj.mp (by rw [h]; decide)))
theorem op_round (h : Rel now im0 im1 kp st im kt) (r md : Rd) (p0 p1 : Int32) : (F_X2_round now r p0 p1).1 = (F_X3_round st md p0 p1).1 := by
  obtain ⟨hg, hc, hm, h1, h2⟩ := laid h.1 r md
  have e0 : F_X2_isBetween p0 0 2 = F_X3_in p0.toInt64 0 2 := btw_in p0 0 2
  have e1 : F_X2_isBetween p1 0 1 = F_X3_in p1.toInt64 0 1 := btw_in p1 0 1
  unfold F_X2_round F_X3_round
  generalize F_X2_layTheRound now r = R at hc h2 ⊢
  generalize F_X3_layTaken st md = Q at hm h1 ⊢
  rw [e0, e1]
  by_cases c0 : F_X3_in p0.toInt64 0 2 = 0
  · rw [if_pos c0, if_pos c0]
  · rw [if_neg c0, if_neg c0]
    by_cases c1 : F_X3_in p1.toInt64 0 1 = 0
    · rw [if_pos c1, if_pos c1]
    · rw [if_neg c1, if_neg c1]
      by_cases hz : zBY (aS now now.2.2.2.1) = 0
      · rw [if_neg (fun q => (h2.mp q) hz), if_pos (h1.mpr hz)]
      · rw [if_pos (h2.mpr hz), if_neg (fun q => hz (h1.mp q))]
        have hn := (by_nn hg).2 hz
        have hv : 0 < zBY (aS now now.2.2.2.1) := by have := (by_nn hg).1; omega
        rcases three c0 with hp | hp | hp
        · subst hp
          rw [if_neg (by decide), if_pos rfl, if_pos rfl]
          dsimp only
          rw [hc.2.1, hc.2.2.1, hm.1, hm.2.1]
          exact low_A hn hv (bd_n hg) (bd_A hg) (bd_BY hg) (Nat.le_of_ble_eq_true rfl) (Nat.le_of_ble_eq_true rfl) (Nat.le_of_ble_eq_true rfl) p1
        · subst hp
          rw [if_neg (by decide), if_neg (by decide), if_neg (by decide), if_pos rfl]
          dsimp only
          rw [hc.2.1, hc.2.2.2.1, hm.1, hm.2.2.1]
          exact low_A hn hv (bd_n hg) (bd_B hg) (bd_BY hg) (Nat.le_of_ble_eq_true rfl) (Nat.le_of_ble_eq_true rfl) (Nat.le_of_ble_eq_true rfl) p1
        · subst hp
          rw [if_pos rfl, if_neg (by decide), if_neg (by decide)]
          dsimp only
          rw [full_c hc, hc.2.2.2.2, hm.1, hm.2.2.2]
          exact low_A (Int.mul_pos hn hn) hv (bd_nn hg) (bd_C hg) (bd_BY hg) (Nat.le_of_ble_eq_true rfl) (Nat.le_of_ble_eq_true rfl) (Nat.le_of_ble_eq_true rfl) p1
theorem op_middle (h : Rel now im0 im1 kp st im kt) (r md : Rd) (p0 p1 : Int32) : (F_X2_middle now r p0 p1).1 = (F_X3_middle st md p0 p1).1 := by
  obtain ⟨hg, hc, hm, h1, h2⟩ := laid h.1 r md
  have e0 : F_X2_isBetween p0 0 1 = F_X3_in p0.toInt64 0 1 := btw_in p0 0 1
  have e1 : F_X2_isBetween p1 0 1 = F_X3_in p1.toInt64 0 1 := btw_in p1 0 1
  unfold F_X2_middle F_X3_middle
  generalize F_X2_layTheRound now r = R at hc h2 ⊢
  generalize F_X3_layTaken st md = Q at hm h1 ⊢
  rw [e0, e1]
  by_cases c0 : F_X3_in p0.toInt64 0 1 = 0
  · rw [if_pos c0, if_pos c0]
  · rw [if_neg c0, if_neg c0]
    by_cases c1 : F_X3_in p1.toInt64 0 1 = 0
    · rw [if_pos c1, if_pos c1]
    · rw [if_neg c1, if_neg c1]
      by_cases hz : zBY (aS now now.2.2.2.1) = 0
      · rw [if_neg (fun q => (h2.mp q) hz), if_pos (h1.mpr hz)]
      · rw [if_pos (h2.mpr hz), if_neg (fun q => hz (h1.mp q))]
        have hn := (by_nn hg).2 hz
        have hv : 0 < zBY (aS now now.2.2.2.1) := by have := (by_nn hg).1; omega
        have b2 : BB (2 : Int) 2 := Nat.le_refl 2
        have t1 : (2 : Int64) * o64 ((aS now now.2.2.2.1).1 * zBY (aS now now.2.2.2.1)) = o64 ((aS now now.2.2.2.1).1 * (2 * zBY (aS now now.2.2.2.1))) := by
          rw [show (aS now now.2.2.2.1).1 * (2 * zBY (aS now now.2.2.2.1)) = 2 * ((aS now now.2.2.2.1).1 * zBY (aS now now.2.2.2.1)) by grind]
          exact (Int64.ofInt_mul 2 _).symm
        have t2 : (2 : Int64) * o64 (zBY (aS now now.2.2.2.1)) = o64 (2 * zBY (aS now now.2.2.2.1)) := (Int64.ofInt_mul 2 _).symm
        rcases in01p c0 with hp | hp
        · subst hp
          rw [if_pos rfl, if_pos rfl]
          dsimp only
          rw [hc.2.1, hc.2.2.1, hm.1, hm.2.1, t1, t2]
          exact low_A hn (by omega) (bd_n hg) (bd_A hg) (b2.mul (bd_BY hg)) (Nat.le_of_ble_eq_true rfl) (Nat.le_of_ble_eq_true rfl) (Nat.le_of_ble_eq_true rfl) p1
        · subst hp
          rw [if_neg (by decide), if_neg (by decide)]
          dsimp only
          rw [hc.2.1, hc.2.2.2.1, hm.1, hm.2.2.1, t1, t2]
          exact low_A hn (by omega) (bd_n hg) (bd_B hg) (b2.mul (bd_BY hg)) (Nat.le_of_ble_eq_true rfl) (Nat.le_of_ble_eq_true rfl) (Nat.le_of_ble_eq_true rfl) p1
theorem op_off (h : Rel now im0 im1 kp st im kt) (r md : Rd) (p0 p1 : Int32) : (F_X2_off now r p0 p1).1 = (F_X3_off st md p0 p1).1 := by
  obtain ⟨hg, hc, hm, h1, h2⟩ := laid h.1 r md
  have e1 : F_X2_isBetween p1 0 1 = F_X3_in p1.toInt64 0 1 := btw_in p1 0 1
  unfold F_X2_off F_X3_off
  generalize F_X2_layTheRound now r = R at hc h2 ⊢
  generalize F_X3_layTaken st md = Q at hm h1 ⊢
  rw [samp_same h.1, e1]
  by_cases c0 : F_X3_isSample st p0 = 0
  · rw [if_pos c0, if_pos c0]
  · rw [if_neg c0, if_neg c0]
    by_cases c1 : F_X3_in p1.toInt64 0 1 = 0
    · rw [if_pos c1, if_pos c1]
    · rw [if_neg c1, if_neg c1]
      by_cases hz : zBY (aS now now.2.2.2.1) = 0
      · rw [if_neg (fun q => (h2.mp q) hz), if_pos (h1.mpr hz)]
      · rw [if_pos (h2.mpr hz), if_neg (fun q => hz (h1.mp q))]
        have hn := (by_nn hg).2 hz
        have hv : 0 < zBY (aS now now.2.2.2.1) := by have := (by_nn hg).1; omega
        obtain ⟨k, hk, rfl, -⟩ := samp_k h.1 c0
        obtain ⟨x1, x2, x3, x4⟩ := h.1.1 k hk
        dsimp only
        rw [nI_clamp (by omega), off_c hc x3 x4, full_c hc, offOf_m h.1 hm hk, hm.1]
        exact low_A (Int.mul_pos hn hn) hv (bd_nn hg) (bd_off hg x3.b x4.b) (bd_BY hg) (Nat.le_of_ble_eq_true rfl) (Nat.le_of_ble_eq_true rfl) (Nat.le_of_ble_eq_true rfl) p1
theorem op_cover (h : Rel now im0 im1 kp st im kt) (r md : Rd) : (F_X2_cover now r).1 = (F_X3_cover st md).1 := by
  obtain ⟨hg, hc, hm, h1, h2⟩ := laid h.1 r md
  unfold F_X2_cover F_X3_cover
  generalize F_X2_layTheRound now r = R at hc h2 ⊢
  generalize F_X3_layTaken st md = Q at hm h1 ⊢
  by_cases hz : zBY (aS now now.2.2.2.1) = 0
  · rw [if_neg (fun q => (h2.mp q) hz), if_pos (h1.mpr hz)]
  · rw [if_pos (h2.mpr hz), if_neg (fun q => hz (h1.mp q))]
    exact cover_eq h.1 hg hc hm hz
theorem poor_eq (h : Rel now im0 im1 kp st im kt) (r md : Rd) : F_X2_isTheRoundPoor now (F_X2_layTheRound now r) = (F_X3_isPoor st md).1 := by
  obtain ⟨hg, hc, hm, h1, h2⟩ := laid h.1 r md
  unfold F_X2_isTheRoundPoor F_X3_isPoor
  generalize F_X2_layTheRound now r = R at hc h2 ⊢
  generalize F_X3_layTaken st md = Q at hm h1 ⊢
  by_cases hz : zBY (aS now now.2.2.2.1) = 0
  · rw [if_neg (fun q => (h2.mp q) hz), if_pos (h1.mpr hz)]
  · rw [if_pos (h2.mpr hz), if_neg (fun q => hz (h1.mp q))]
    rw [cover_eq h.1 hg hc hm hz, bc_eq (fun j hj _ => cover_hi (rel_mb h) _ _ (by omega))]
    have h4 : now.2.2.2.2 = st 22 := h.1.2.2.2.1
    rw [h4]
    by_cases c : st 22 ≤ F_X3_size (F_X3_coverOf st Q.2 (st 21))
    · rw [if_pos c, if_pos c]
    · rw [if_neg c, if_neg c]
theorem poor_snd (st : Nat → Int32) (md : Rd) : (F_X3_isPoor st md).2 = (F_X3_layTaken st md).2 := by
  unfold F_X3_isPoor
  split
  · rfl
  · split <;> rfl
theorem op_poor (h : Rel now im0 im1 kp st im kt) (r md : Rd) : (F_X2_poor now r).1 = (F_X3_poor st md).1 := by
  unfold F_X2_poor F_X3_poor
  rw [poor_eq h r md]
  by_cases c : (F_X3_isPoor st md).1 = 0
  · rw [if_pos c, if_pos c]
  · rw [if_neg c, if_neg c]
theorem op_eighth (h : Rel now im0 im1 kp st im kt) (r md : Rd) (p0 : Int32) : (F_X2_eighth now r p0).1 = (F_X3_eighth st md p0).1 := by
  obtain ⟨hg, hc, hm, h1, h2⟩ := laid h.1 r md
  unfold F_X2_eighth F_X3_eighth
  generalize F_X2_layTheRound now r = R at hc h2 ⊢
  generalize F_X3_layTaken st md = Q at hm h1 ⊢
  rw [samp_same h.1]
  by_cases c0 : F_X3_isSample st p0 = 0
  · rw [if_pos c0, if_pos c0]
  · rw [if_neg c0, if_neg c0]
    by_cases hz : zBY (aS now now.2.2.2.1) = 0
    · rw [if_neg (fun q => (h2.mp q) hz), if_pos (h1.mpr hz)]
    · rw [if_pos (h2.mpr hz), if_neg (fun q => hz (h1.mp q))]
      obtain ⟨k, hk, rfl, -⟩ := samp_k h.1 c0
      obtain ⟨x1, x2, x3, x4⟩ := h.1.1 k hk
      rw [c0_nI (st := st) hk, c10_nI (st := st) hk, nI_clamp (by omega)]
      have e : st (10 + k) = now.2.1 k := by rw [x2, Nat.zero_add]
      rw [← x1, e]
      exact eighth_eq hg hc hm hz x3 x4
theorem op_points (h : Rel now im0 im1 kp st im kt) (r md : Rd) (p0 p1 : Int32) : (F_X2_points now r p0 p1).1 = (F_X3_points st md p0 p1).1 := by
  obtain ⟨hg, hc, hm, h1, h2⟩ := laid h.1 r md
  unfold F_X2_points F_X3_points
  rw [place_here, poor_eq h r md, poor_snd]
  by_cases c0 : F_X3_isHere p0 p1 = 0
  · rw [if_pos c0, if_pos c0]
  · rw [if_neg c0, if_neg c0]
    by_cases c : (F_X3_isPoor st md).1 = 0
    · rw [if_pos c, if_pos c]
      obtain ⟨x3, x4⟩ := here_IB c0
      refine eighth_eq hg hc hm (fun hz => ?_) x3 x4
      unfold F_X3_isPoor at c
      rw [if_pos (h1.mpr hz)] at c
      exact absurd (show (1 : Int32) = 0 from c) (by decide)
    · rw [if_neg c, if_neg c]
theorem op_count (h : Rel now im0 im1 kp st im kt) (r md : Rd) (p0 : Int32) : (F_X2_count now kp r p0).1 = (F_X3_count st kt md p0).1 := by
  obtain ⟨hg, hc, hm, h1, h2⟩ := laid h.1 r md
  have a1 : now.2.2.1 = st 20 := h.1.2.1
  have a2 : now.2.2.2.1 = st 21 := h.1.2.2.1
  have a3 : now.2.2.2.2 = st 22 := h.1.2.2.2.1
  obtain ⟨M, hM, e1, e2, hb⟩ := SR_M h.1
  have hbc := bc_eq (x := now.2.2.2.1) (fun j hj hj2 => hb j (by omega) hj2)
  unfold F_X2_count F_X3_count
  by_cases c0 : p0 = 0
  · rw [if_pos c0, if_pos c0]; exact a1
  · rw [if_neg c0, if_neg c0]
    by_cases c1 : p0 = 1
    · rw [if_pos c1, if_pos c1, hbc, a2]
    · rw [if_neg c1, if_neg c1]
      by_cases c2 : p0 = 2
      · rw [if_pos c2, if_pos c2]; exact a2
      · rw [if_neg c2, if_neg c2]
        by_cases c3 : p0 = 3
        · rw [if_pos c3, if_pos c3]; exact a3
        · rw [if_neg c3, if_neg c3]
          by_cases c4 : p0 = 4
          · rw [if_pos c4, if_pos c4]
            by_cases hz : zBY (aS now now.2.2.2.1) = 0
            · rw [if_neg (fun q => (h2.mp q) hz), if_pos (h1.mpr hz)]
            · rw [if_pos (h2.mpr hz), if_neg (fun q => hz (h1.mp q))]
          · rw [if_neg c4, if_neg c4]
            by_cases c5 : p0 = 5
            · rw [if_pos c5, if_pos c5]
              show kp = _
              rw [h.2.2.2]
              by_cases b0 : kt 0 = 0 <;> by_cases b1 : kt 1 = 0 <;> simp only [b0, b1, if_true, if_false]
            · rw [if_neg c5, if_neg c5]
end OPS2
