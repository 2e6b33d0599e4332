/-! the worst sample, on both sides -/
def zs (now : Sm) (a : Z9) (k : Nat) : Nat := (zOff a (now.1 k).toInt (now.2.1 k).toInt).natAbs
theorem zs_le {now : Sm} {st : Nat → Int32} (h : SR now st 0) {a : Z9} (hg : GD 11 a) {k : Nat} (hk : k < 10) : zs now a k ≤ 261685248000000 := by
  obtain ⟨-, -, x3, x4⟩ := h.1 k hk
  exact bd_off hg x3.b x4.b
theorem ms_eq {now : Sm} {st : Nat → Int32} (h : SR now st 0) {q : Rd} {a : Z9} (hg : GD 11 a) (hq : ML q a) {k : Nat} (hk : k < 10) : F_X3_plain (F_X3_offOf st q (nI k)) = lN (zs now a k) := by
  obtain ⟨-, -, x3, x4⟩ := h.1 k hk
  rw [offOf_m h hq hk]
  exact plain_o ((bd_off hg x3.b x4.b).le (Nat.le_of_ble_eq_true rfl))
theorem samp_yes {now : Sm} {k : Nat} (hk : k < 10) (hM : (k : Int) < now.2.2.1.toInt) : ¬ F_X2_isSample now (nI k) = 0 := by
  unfold F_X2_isSample
  have hn := nI_toInt (n := k) (by omega)
  rw [if_neg (nI_pos (n := k) (by omega)), if_neg (by rw [Int32.le_iff_toInt_le, hn]; omega), if_neg (show ¬ (10 : Int32) ≤ nI k from nI_ge (a := k) (b := 10) (by omega) (by decide))]
  decide
theorem cs_eq {now : Sm} {st : Nat → Int32} (h : SR now st 0) {r : Rd} {a : Z9} (hg : GD 11 a) (hr : CL r a) {k : Nat} (hk : k < 10) (hM : (k : Int) < now.2.2.1.toInt) : F_X2_sizeUpper now r (nI k) = lN ((a.1 * a.1).natAbs * zs now a k) := by
  obtain ⟨-, -, x3, x4⟩ := h.1 k hk
  unfold F_X2_sizeUpper
  rw [if_neg (samp_yes hk hM), nI_clamp (by omega), off_c hr x3 x4, abs_o (((bd_nn hg).mul (bd_off hg x3.b x4.b)).le (Nat.le_of_ble_eq_true rfl)), Int.natAbs_mul]
  rfl
theorem nn_le {a : Z9} (hg : GD 11 a) : (a.1 * a.1).natAbs ≤ 121 := bd_nn hg
theorem nn_pos {a : Z9} (hn : 0 < a.1) : 0 < (a.1 * a.1).natAbs := by
  have := Int.mul_pos hn hn
  omega
theorem lle {x y : Nat} (hx : x < 9223372036854775808) (hy : y < 9223372036854775808) : (lg_cmp (lN x) (lN y) ≤ 0) ↔ x ≤ y := by
  rw [lg_cmp_le]
  exact pk_lLE hx hy
theorem cls_none {now : Sm} {r : Rd} : ∀ (c k : Nat) (w : Int32) (g : Int64), k + c = 10 → (∀ j, k ≤ j → j < 10 → bt now.2.2.2.1 j = false) → L_X2_worstSample_9 now r (c + 1) w g (nI k) = w := by
  intro c
  induction c with
  | zero =>
    intro k w g h hb
    have hk : k = 10 := by omega
    subst hk
    exact if_pos (by decide)
  | succ c ih =>
    intro k w g h hb
    have hn : ¬ (10 : Int32) ≤ nI k := nI_ge (a := k) (b := 10) (by omega) (by decide)
    have e : L_X2_worstSample_9 now r (c + 1 + 1) w g (nI k) = L_X2_worstSample_9 now r (c + 1) w g (nI k + 1) := (if_neg hn).trans (if_pos (isIn0 _ (by omega) (hb k (by omega) (by omega))))
    rw [e, nI_1]
    exact ih (k + 1) w g (by omega) (fun j h1 h2 => hb j (by omega) h2)
theorem worst_joint {now : Sm} {st : Nat → Int32} (h : SR now st 0) {r q : Rd} {a : Z9} (hg : GD 11 a) (hr : CL r a) (hq : ML q a) (hn0 : 0 < a.1) {M : Nat} (hM : M ≤ 10) (hm : now.2.2.1 = nI M) (hs : st 20 = nI M) (hb : ∀ j, M ≤ j → j < 32 → bt now.2.2.2.1 j = false) : ∀ (c k : Nat) (w w' : Int32) (g : Int64), k + c = 10 → k ≤ M → ((g = -1 ∧ w' = -6 ∧ ∃ j, k ≤ j ∧ j < M ∧ bt now.2.2.2.1 j = true) ∨ (∃ j, j < M ∧ w = nI j ∧ w' = nI j ∧ g = lN ((a.1 * a.1).natAbs * zs now a j))) → L_X2_worstSample_9 now r (c + 1) w g (nI k) = L_X3_worstOf_5 st q now.2.2.2.1 (c + 1) w' (nI k) := by
  have hmi : now.2.2.1.toInt = (M : Int) := by rw [hm, nI_toInt (by omega)]
  intro c
  induction c with
  | zero =>
    intro k w w' g hc hk hd
    have hk2 : k = 10 := by omega
    subst hk2
    have e1 : L_X2_worstSample_9 now r (0 + 1) w g (nI 10) = w := if_pos (by decide)
    have e2 : L_X3_worstOf_5 st q now.2.2.2.1 (0 + 1) w' (nI 10) = w' := if_pos (by rw [hs]; exact nI_le (by omega) (by omega))
    rw [e1, e2]
    rcases hd with ⟨-, -, j, h1, h2, -⟩ | ⟨j, -, h1, h2, -⟩
    · omega
    · rw [h1, h2]
  | succ c ih =>
    intro k w w' g hc hk hd
    by_cases hk2 : k = M
    · have e2 : L_X3_worstOf_5 st q now.2.2.2.1 (c + 1 + 1) w' (nI k) = w' := if_pos (by rw [hs, hk2]; exact nI_le (Nat.le_refl _) (by omega))
      rw [e2, cls_none (c + 1) k w g hc (fun j h1 h2 => hb j (by omega) (by omega))]
      rcases hd with ⟨-, -, j, h1, h2, -⟩ | ⟨j, -, h1, h2, -⟩
      · omega
      · rw [h1, h2]
    · have hn : ¬ (10 : Int32) ≤ nI k := nI_ge (a := k) (b := 10) (by omega) (by decide)
      have hn' : ¬ st 20 ≤ nI k := by rw [hs]; exact nI_ge (by omega) (by omega)
      cases hbk : bt now.2.2.2.1 k
      · have e1 : L_X2_worstSample_9 now r (c + 1 + 1) w g (nI k) = L_X2_worstSample_9 now r (c + 1) w g (nI k + 1) := (if_neg hn).trans (if_pos (isIn0 _ (by omega) hbk))
        have e2 : L_X3_worstOf_5 st q now.2.2.2.1 (c + 1 + 1) w' (nI k) = L_X3_worstOf_5 st q now.2.2.2.1 (c + 1) w' (nI k + 1) := (if_neg hn').trans (if_neg (fun h => by have := (q_bit1 now.2.2.2.1 (show k < 32 by omega)).mp h; rw [hbk] at this; cases this))
        rw [e1, e2, nI_1]
        refine ih (k + 1) w w' g (by omega) (by omega) ?_
        rcases hd with ⟨h1, h2, j, h3, h4, h5⟩ | hd
        · refine Or.inl ⟨h1, h2, j, ?_, h4, h5⟩
          rcases Nat.lt_or_ge k j with h6 | h6
          · omega
          · have : j = k := by omega
            rw [this, hbk] at h5
            cases h5
        · exact Or.inr hd
      · have zk := zs_le h hg (k := k) (by omega)
        have nl := nn_le hg
        have np := nn_pos hn0
        have bnd : ∀ j, j < 10 → (a.1 * a.1).natAbs * zs now a j ≤ 121 * 261685248000000 := fun j hj => Nat.mul_le_mul nl (zs_le h hg hj)
        have ck := cs_eq h hg hr (k := k) (by omega) (by omega)
        have mk := ms_eq h hg hq (k := k) (by omega)
        have e1 : L_X2_worstSample_9 now r (c + 1 + 1) w g (nI k) = (if (lg_cmp (F_X2_sizeUpper now r (nI k)) g) ≤ 0 then (L_X2_worstSample_9 now r (c + 1) w g (nI k + 1)) else (L_X2_worstSample_9 now r (c + 1) (nI k) (F_X2_sizeUpper now r (nI k)) (nI k + 1))) := (if_neg hn).trans (if_neg (isIn1 _ (by omega) hbk))
        have e2 : L_X3_worstOf_5 st q now.2.2.2.1 (c + 1 + 1) w' (nI k) = (if w' < 0 then (L_X3_worstOf_5 st q now.2.2.2.1 (c + 1) (nI k) (nI k + 1)) else (if (lg_cmp (F_X3_plain (F_X3_offOf st q (nI k))) (F_X3_plain (F_X3_offOf st q w'))) ≤ 0 then (L_X3_worstOf_5 st q now.2.2.2.1 (c + 1) w' (nI k + 1)) else (L_X3_worstOf_5 st q now.2.2.2.1 (c + 1) (nI k) (nI k + 1)))) := (if_neg hn').trans (if_pos ((q_bit1 now.2.2.2.1 (show k < 32 by omega)).mpr hbk))
        rw [e1, e2, nI_1]
        have new : L_X2_worstSample_9 now r (c + 1) (nI k) (F_X2_sizeUpper now r (nI k)) (nI (k + 1)) = L_X3_worstOf_5 st q now.2.2.2.1 (c + 1) (nI k) (nI (k + 1)) := ih (k + 1) _ _ _ (by omega) (by omega) (Or.inr ⟨k, by omega, rfl, rfl, ck⟩)
        rcases hd with ⟨h1, h2, -⟩ | ⟨j, hj, h1, h2, h3⟩
        · have c1 : ¬ lg_cmp (F_X2_sizeUpper now r (nI k)) g ≤ 0 := by
            rw [lg_cmp_le, ck, h1, Int64.le_iff_toInt_le, pk_lT (by have := bnd k (by omega); omega)]
            have e : (-1 : Int64).toInt = -1 := by decide
            omega
          have c2 : w' < 0 := by rw [h2]; decide
          rw [if_neg c1, if_pos c2]
          exact new
        · have c2 : ¬ w' < 0 := by rw [h2]; exact nI_pos (n := j) (by omega)
          have mj := ms_eq h hg hq (k := j) (by omega)
          have x1 : (lg_cmp (F_X2_sizeUpper now r (nI k)) g ≤ 0) ↔ zs now a k ≤ zs now a j := by
            rw [ck, h3, lle (by have := bnd k (by omega); omega) (by have := bnd j (by omega); omega)]
            exact ⟨fun h => Nat.le_of_mul_le_mul_left h np, fun h => Nat.mul_le_mul_left _ h⟩
          have x2 : (lg_cmp (F_X3_plain (F_X3_offOf st q (nI k))) (F_X3_plain (F_X3_offOf st q w')) ≤ 0) ↔ zs now a k ≤ zs now a j := by
            rw [h2, mk, mj, lle (by omega) (by have := zs_le h hg (k := j) (by omega); omega)]
          rw [if_neg c2]
          by_cases cc : zs now a k ≤ zs now a j
          · rw [if_pos (x1.mpr cc), if_pos (x2.mpr cc)]
            exact ih (k + 1) _ _ _ (by omega) (by omega) (Or.inr ⟨j, hj, h1, h2, h3⟩)
          · rw [if_neg (fun q => cc (x1.mp q)), if_neg (fun q => cc (x2.mp q))]
            exact new
/-- a set without members has no round -/
theorem IZ_none {xs ys : Nat → Int32} {s : Int32} : ∀ n, (∀ j, j < n → bt s j = false) → IZ xs ys s n = (0, 0, 0, 0, 0, 0, 0, 0, 0) := by
  intro n
  induction n with
  | zero => intro _; rfl
  | succ n ih =>
    intro h
    show (if bt s n = true then _ else IZ xs ys s n) = _
    rw [if_neg (by rw [h n (by omega)]; decide)]
    exact ih (fun j hj => h j (by omega))
theorem by_mem {now : Sm} {s : Int32} (hz : ¬ zBY (aS now s) = 0) : ∃ j, j < 10 ∧ bt s j = true := by
  by_cases h : ∃ j, j < 10 ∧ bt s j = true
  · exact h
  · exfalso
    apply hz
    have : aS now s = (0, 0, 0, 0, 0, 0, 0, 0, 0) := IZ_none 10 (fun j hj => by
      cases hb : bt s j
      · rfl
      · exact absurd ⟨j, hj, hb⟩ h)
    rw [this]
    decide
theorem worst_same {now : Sm} {st : Nat → Int32} (h : SR now st 0) {r q : Rd} (hr : CL r (aS now now.2.2.2.1)) (hq : ML q (aS now now.2.2.2.1)) (hz : ¬ zBY (aS now now.2.2.2.1) = 0) : F_X2_worstSample now r = F_X3_worstOf st q (st 21) ∧ ∃ j : Nat, j < 10 ∧ (j : Int) < now.2.2.1.toInt ∧ bt now.2.2.2.1 j = true ∧ F_X3_worstOf st q (st 21) = nI j := by
  obtain ⟨M, hM, e1, e2, hb⟩ := SR_M h
  have hg := gd_aS h now.2.2.2.1
  have hn := (by_nn hg).2 hz
  have h3 : now.2.2.2.1 = st 21 := h.2.2.1
  obtain ⟨j, hj, hbj⟩ := by_mem hz
  have hjM : j < M := by
    rcases Nat.lt_or_ge j M with q | q
    · exact q
    · rw [hb j q (by omega)] at hbj; cases hbj
  have hmi : now.2.2.1.toInt = (M : Int) := by rw [e1, nI_toInt (by omega)]
  rw [← h3]
  refine ⟨worst_joint h hg hr hq hn hM e1 e2 hb 10 0 0 (-6) (-1) rfl (Nat.zero_le _) (Or.inl ⟨rfl, rfl, j, Nat.zero_le _, hjM, hbj⟩), ?_⟩
  rcases worst_V q now.2.2.2.1 hM e2 with h1 | ⟨i, h1, h2, h4⟩
  · rw [h1.2 j hjM] at hbj; cases hbj
  · exact ⟨i, by omega, by omega, h4, h2⟩
section OPS3
variable {now im0 im1 : Sm} {kp : Int32} {st im kt : Nat → Int32}
theorem op_worst (h : Rel now im0 im1 kp st im kt) (r md : Rd) (p0 : Int32) : (F_X2_worst now r p0).1 = (F_X3_worst st md p0).1 := by
  obtain ⟨hg, hc, hm, h1, h2⟩ := laid h.1 r md
  have e0 : F_X2_isBetween p0 0 1 = F_X3_in p0.toInt64 0 1 := btw_in p0 0 1
  unfold F_X2_worst F_X3_worst
  generalize F_X2_layTheRound now r = R at hc h2 ⊢
  generalize F_X3_layTaken st md = Q at hm h1 ⊢
  rw [e0]
  by_cases c0 : F_X3_in p0.toInt64 0 1 = 0
  · rw [if_pos c0, if_pos c0]
  · rw [if_neg c0, if_neg c0]
    by_cases hz : zBY (aS now now.2.2.2.1) = 0
    · rw [if_neg (fun q => (h2.mp q) hz), if_pos (h1.mpr hz)]
    · rw [if_pos (h2.mpr hz), if_neg (fun q => hz (h1.mp q))]
      obtain ⟨w1, j, hj, hjM, hbj, w2⟩ := worst_same h.1 hc hm hz
      by_cases c1 : p0 = 0
      · rw [if_pos c1, if_pos c1]
        exact w1
      · rw [if_neg c1, if_neg c1]
        have hn := (by_nn hg).2 hz
        have hv : 0 < zBY (aS now now.2.2.2.1) := by have := (by_nn hg).1; omega
        have hnn := Int.mul_pos hn hn
        have hfl : 0 < (aS now now.2.2.2.1).1 * (aS now now.2.2.2.1).1 * zBY (aS now now.2.2.2.1) := Int.mul_pos hnn hv
        have bf : SM ((aS now now.2.2.2.1).1 * (aS now now.2.2.2.1).1 * zBY (aS now now.2.2.2.1)) := ((bd_nn hg).mul (bd_BY hg)).le (Nat.le_of_ble_eq_true rfl)
        have cf : ¬ lg_cmp (F_X0_fullLower R) 0 ≤ 0 := by
          rw [full_c hc, lg_cmp_le, Int64.le_iff_toInt_le, o_int bf]
          have e : (0 : Int64).toInt = 0 := by decide
          omega
        rw [if_neg cf]
        dsimp only
        rw [w1, w2, cs_eq h.1 hg hc hj hjM, ms_eq h.1 hg hm hj, full_c hc, hm.1]
        generalize aS now now.2.2.2.1 = a at *
        have zl := zs_le h.1 hg hj
        have nl := nn_le hg
        have bz : SM ((zs now a j : Nat) : Int) := by show ((zs now a j : Nat) : Int).natAbs ≤ 4611686018427387904; omega
        have e1 : lN ((a.1 * a.1).natAbs * zs now a j) = o64 (a.1 * a.1 * (zs now a j : Int)) := by
          rw [lN_o, Int.natCast_mul]
          congr 2
          omega
        have bz2 : SM (a.1 * a.1 * (zs now a j : Int)) := ((bd_nn hg).mul (show BB (zs now a j : Int) 261685248000000 by show ((zs now a j : Nat) : Int).natAbs ≤ 261685248000000; omega)).le (Nat.le_of_ble_eq_true rfl)
        rw [e1, lN_o, div_o bz2 bf, div_o bz (sm_BY hg), Int.mul_tdiv_mul_of_pos _ _ hnn]
end OPS3
