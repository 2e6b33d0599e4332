section OPS1
variable {now im0 im1 : Sm} {kp : Int32} {st im kt : Nat → Int32}
theorem op_clear (h : Rel now im0 im1 kp st im kt) : (F_X2_clear now).1 = (F_X3_clear st).1 ∧ Rel (F_X2_clear now).2 im0 im1 kp (F_X3_clear st).2 im kt := by
  obtain ⟨⟨h1, h2, h3, h4, h5, h6, h7⟩, hr⟩ := h
  refine ⟨h2, ⟨fun j hj => ?_, ?_, ?_, ?_, by show 0 ≤ (0 : Int32).toInt ∧ (0 : Int32).toInt ≤ 10; decide, fun j _ _ => b_0 j, h7⟩, hr⟩
  · show now.1 j = upd (upd st 20 0) 21 0 (0 + j) ∧ now.2.1 j = upd (upd st 20 0) 21 0 (0 + (10 + j)) ∧ _
    rw [pk_un (by omega), pk_un (by omega), pk_un (by omega), pk_un (by omega)]
    exact h1 j hj
  · rfl
  · rfl
  · show now.2.2.2.2 = upd (upd st 20 0) 21 0 (0 + 22)
    rw [pk_un (by omega), pk_un (by omega)]
    exact h4
theorem op_need (h : Rel now im0 im1 kp st im kt) (p0 : Int32) : (F_X2_need now p0).1 = (F_X3_need st p0).1 ∧ Rel (F_X2_need now p0).2 im0 im1 kp (F_X3_need st p0).2 im kt := by
  have e : F_X2_isBetween p0 1 8 = F_X3_in p0.toInt64 1 8 := btw_in p0 1 8
  unfold F_X2_need F_X3_need
  rw [e]
  by_cases c : F_X3_in p0.toInt64 1 8 = 0
  · rw [if_pos c, if_pos c]
    exact ⟨rfl, h⟩
  · rw [if_neg c, if_neg c]
    obtain ⟨⟨h1, h2, h3, h4, h5, h6, h7⟩, hr⟩ := h
    have hc := in_ne c
    rw [Int32.toInt_toInt64] at hc
    refine ⟨h4, ⟨fun j hj => ?_, ?_, ?_, ?_, h5, h6, hc⟩, hr⟩
    · show now.1 j = upd st 22 p0 (0 + j) ∧ now.2.1 j = upd st 22 p0 (0 + (10 + j)) ∧ _
      rw [pk_un (by omega), pk_un (by omega)]
      exact h1 j hj
    · show now.2.2.1 = upd st 22 p0 (0 + 20)
      rw [pk_un (by omega)]; exact h2
    · show now.2.2.2.1 = upd st 22 p0 (0 + 21)
      rw [pk_un (by omega)]; exact h3
    · rfl
theorem op_of (h : Rel now im0 im1 kp st im kt) (p0 p1 : Int32) : F_X2_of now p0 p1 = F_X3_of st p0 p1 := by
  unfold F_X2_of F_X3_of
  rw [samp_same h.1]
  by_cases c : F_X3_isSample st p0 = 0
  · rw [if_pos c, if_pos c]
  · rw [if_neg c, if_neg c]
    obtain ⟨k, hk, rfl, -⟩ := samp_k h.1 c
    obtain ⟨h1, h2, h3, -⟩ := h.1
    obtain ⟨x1, x2, -, -⟩ := h1 k hk
    rw [c0_nI (st := st) hk, c10_nI (st := st) hk, nI_clamp (by omega), x1, x2, q_isIn _ (by omega), q_bit _ (by omega), h3]
    have e0 : st (0 + (10 + k)) = st (10 + k) := by rw [Nat.zero_add]
    have e1 : st (0 + 21) = st 21 := rfl
    rw [e0, e1]
    cases bt (st 21) k <;> rfl
theorem op_take (h : Rel now im0 im1 kp st im kt) (p0 p1 : Int32) : (F_X2_take now p0 p1).1 = (F_X3_take st p0 p1).1 ∧ Rel (F_X2_take now p0 p1).2 im0 im1 kp (F_X3_take st p0 p1).2 im kt := by
  have e : F_X2_isBetween p1 0 1 = F_X3_in p1.toInt64 0 1 := btw_in p1 0 1
  unfold F_X2_take F_X3_take
  rw [samp_same h.1, e]
  by_cases c : F_X3_isSample st p0 = 0
  · rw [if_pos c, if_pos c]; exact ⟨rfl, h⟩
  · rw [if_neg c, if_neg c]
    by_cases c2 : F_X3_in p1.toInt64 0 1 = 0
    · rw [if_pos c2, if_pos c2]; exact ⟨rfl, h⟩
    · rw [if_neg c2, if_neg c2]
      obtain ⟨k, hk, rfl, hkM⟩ := samp_k h.1 c
      obtain ⟨⟨h1, h2, h3, h4, h5, h6, h7⟩, hr⟩ := h
      have h3' : now.2.2.2.1 = st 21 := h3
      have key : ∀ t : Int32, (∀ j : Nat, now.2.2.1.toInt ≤ (j : Int) → j < 32 → bt t j = false) → F_J6_bitCount_0f7a4 t = F_X3_size ((upd st 21 t) 21) ∧ Rel (now.1, now.2.1, now.2.2.1, t, now.2.2.2.2) im0 im1 kp (upd st 21 t) im kt := by
        intro t ht
        refine ⟨?_, ⟨fun j hj => ?_, ?_, ?_, ?_, h5, ht, h7⟩, hr⟩
        · rw [pk_us]
          exact bc_eq (fun j hj hj2 => ht j (by omega) hj2)
        · show now.1 j = upd st 21 t (0 + j) ∧ now.2.1 j = upd st 21 t (0 + (10 + j)) ∧ _
          rw [pk_un (by omega), pk_un (by omega)]
          exact h1 j hj
        · show now.2.2.1 = upd st 21 t (0 + 20)
          rw [pk_un (by omega)]; exact h2
        · show t = upd st 21 t 21
          rw [pk_us]
        · show now.2.2.2.2 = upd st 21 t (0 + 22)
          rw [pk_un (by omega)]; exact h4
      have hcl : ∀ j : Nat, now.2.2.1.toInt ≤ (j : Int) → j < 32 → bt (now.2.2.2.1 &&& (((1 : Int32) <<< (nI k &&& 31)) ^^^ (-1))) j = false := by
        intro j hj hj2
        rw [b_clear _ (by omega) hj2]
        by_cases hjk : j = k
        · rw [if_pos hjk]
        · rw [if_neg hjk]; exact h6 j hj hj2
      rcases in01p c2 with hp | hp
      · subst hp
        have e2 : (st 21 &&& (((1 : Int32) <<< (nI k &&& 31)) ^^^ (-1))) ||| ((0 : Int32) <<< (nI k &&& 31)) = now.2.2.2.1 &&& (((1 : Int32) <<< (nI k &&& 31)) ^^^ (-1)) := by
          rw [h3']
          apply b_ext
          intro j hj
          rw [b_or, b_shl k (by omega) 0 hj, b_0]
          simp
        rw [e2, if_neg (by decide)]
        exact key _ hcl
      · subst hp
        have e2 : (st 21 &&& (((1 : Int32) <<< (nI k &&& 31)) ^^^ (-1))) ||| ((1 : Int32) <<< (nI k &&& 31)) = now.2.2.2.1 ||| ((1 : Int32) <<< (nI k &&& 31)) := by
          rw [h3']
          apply b_ext
          intro j hj
          rw [b_set _ (by omega) hj, b_set _ (by omega) hj, b_clear _ (by omega) hj]
          by_cases hjk : j = k
          · rw [if_pos hjk, if_pos hjk]
          · rw [if_neg hjk, if_neg hjk, if_neg hjk]
        rw [e2, if_pos rfl]
        refine key _ (fun j hj hj2 => ?_)
        rw [b_set _ (by omega) hj2, if_neg (by omega)]
        exact h6 j hj hj2
theorem op_add (h : Rel now im0 im1 kp st im kt) (p0 p1 : Int32) : (F_X2_add now p0 p1).1 = (F_X3_add st p0 p1).1 ∧ Rel (F_X2_add now p0 p1).2 im0 im1 kp (F_X3_add st p0 p1).2 im kt := by
  obtain ⟨M, hM, e1, e2, hb⟩ := SR_M h.1
  unfold F_X2_add F_X3_add
  rw [place_here, e1, e2]
  by_cases c : F_X3_isHere p0 p1 = 0
  · rw [if_pos c, if_pos c]; exact ⟨rfl, h⟩
  · rw [if_neg c, if_neg c, if_neg (nI_pos (n := M) (by omega))]
    by_cases h10 : M = 10
    · have hx : ¬ nI M < 10 := by rw [h10]; decide
      have hy : nI M = 10 := by rw [h10]; rfl
      rw [if_neg hx, if_pos hy]
      exact ⟨rfl, h⟩
    · have hx : nI M < 10 := nI_lt (a := M) (b := 10) (by omega) (by decide)
      have hy : ¬ nI M = 10 := fun e => h10 ((nI_eq (a := M) (b := 10) (by omega) (by decide)).mp e)
      rw [if_pos hx, if_neg hy]
      have i0 : (0 + nI M).toNatClampNeg = M := by
        have e : (0 : Int32) + nI M = nI (0 + M) := nI_add 0 M
        rw [e, nI_clamp (by omega)]; omega
      have i10 : (10 + nI M).toNatClampNeg = 10 + M := by
        have e : (10 : Int32) + nI M = nI (10 + M) := nI_add 10 M
        rw [e, nI_clamp (by omega)]
      rw [i0, i10, nI_clamp (by omega)]
      obtain ⟨hx0, hy0⟩ := here_IB c
      obtain ⟨⟨h1, h2, h3, h4, h5, h6, h7⟩, hr⟩ := h
      have s1 : (upd (upd st M p0) (10 + M) p1) 21 = now.2.2.2.1 := by rw [pk_un (by omega), pk_un (by omega)]; exact h3.symm
      rw [s1]
      have hbT : ∀ j : Nat, M + 1 ≤ j → j < 32 → bt (now.2.2.2.1 ||| ((1 : Int32) <<< (nI M &&& 31))) j = false := by
        intro j hj hj2
        rw [b_set _ (by omega) hj2, if_neg (by omega)]
        exact hb j (by omega) hj2
      generalize now.2.2.2.1 ||| ((1 : Int32) <<< (nI M &&& 31)) = T at hbT ⊢
      have s2 : (upd (upd (upd st M p0) (10 + M) p1) 21 T) 20 = nI M := by rw [pk_un (by omega), pk_un (by omega), pk_un (by omega)]; exact e2
      rw [s2]
      have e1M : (nI M + 1).toInt = ((M + 1 : Nat) : Int) := by rw [nI_1, nI_toInt (by omega)]
      refine ⟨rfl, ⟨fun j hj => ?_, ?_, ?_, ?_, ?_, ?_, h7⟩, hr⟩
      · show upd now.1 M p0 j = upd (upd (upd (upd st M p0) (10 + M) p1) 21 T) 20 (nI M + 1) (0 + j) ∧ upd now.2.1 M p1 j = upd (upd (upd (upd st M p0) (10 + M) p1) 21 T) 20 (nI M + 1) (0 + (10 + j)) ∧ IB (upd now.1 M p0 j) ∧ IB (upd now.2.1 M p1 j)
        rw [pk_un (k := 20) (by omega), pk_un (k := 21) (by omega), pk_un (k := 10 + M) (by omega), pk_un (k := 20) (by omega), pk_un (k := 21) (by omega)]
        by_cases hj2 : j = M
        · subst hj2
          rw [pk_us, pk_us, Nat.zero_add, pk_us, Nat.zero_add, pk_us]
          exact ⟨rfl, rfl, hx0, hy0⟩
        · rw [pk_un hj2, pk_un hj2, pk_un (by omega), pk_un (by omega), pk_un (by omega)]
          exact h1 j hj
      · show nI M + (1 : Int32) = upd (upd (upd (upd st M p0) (10 + M) p1) 21 T) 20 (nI M + (1 : Int32)) 20
        exact pk_us.symm
      · show T = upd (upd (upd (upd st M p0) (10 + M) p1) 21 T) 20 (nI M + (1 : Int32)) 21
        rw [pk_un (by omega)]
        exact pk_us.symm
      · show now.2.2.2.2 = upd (upd (upd (upd st M p0) (10 + M) p1) 21 T) 20 (nI M + (1 : Int32)) 22
        rw [pk_un (by omega), pk_un (by omega), pk_un (by omega), pk_un (by omega)]
        exact h4
      · show 0 ≤ (nI M + (1 : Int32)).toInt ∧ (nI M + (1 : Int32)).toInt ≤ 10
        rw [e1M]
        omega
      · intro j hj hj2
        have hj3 : (nI M + (1 : Int32)).toInt ≤ (j : Int) := hj
        rw [e1M] at hj3
        exact hbT j (by omega) hj2
theorem become_L (b : Sm) : ∀ (c k : Nat) (v : Sm), k + c = 10 → (∀ j, j < k → v.1 j = b.1 j ∧ v.2.1 j = b.2.1 j) → (∀ j, j < 10 → (L_X1_become_2 b (c + 1) (nI k) v).1 j = b.1 j ∧ (L_X1_become_2 b (c + 1) (nI k) v).2.1 j = b.2.1 j) ∧ (L_X1_become_2 b (c + 1) (nI k) v).2.2 = b.2.2 := by
  intro c
  induction c with
  | zero =>
    intro k v h hv
    have hk : k = 10 := by omega
    subst hk
    have e : L_X1_become_2 b (0 + 1) (nI 10) v = (v.1, v.2.1, b.2.2.1, b.2.2.2.1, b.2.2.2.2) := if_pos (by decide)
    rw [e]
    exact ⟨hv, rfl⟩
  | succ c ih =>
    intro k v h hv
    have hn : ¬ (10 : Int32) ≤ nI k := nI_ge (a := k) (b := 10) (by omega) (by decide)
    have e : L_X1_become_2 b (c + 1 + 1) (nI k) v = L_X1_become_2 b (c + 1) (nI k + 1) (upd v.1 (nI k).toNatClampNeg (b.1 (nI k).toNatClampNeg), upd v.2.1 (nI k).toNatClampNeg (b.2.1 (nI k).toNatClampNeg), v.2.2.1, v.2.2.2.1, v.2.2.2.2) := if_neg hn
    rw [e, nI_1, nI_clamp (by omega)]
    refine ih (k + 1) _ (by omega) (fun j hj => ?_)
    show upd v.1 k (b.1 k) j = b.1 j ∧ upd v.2.1 k (b.2.1 k) j = b.2.1 j
    by_cases hj2 : j = k
    · subst hj2
      rw [pk_us, pk_us]
      exact ⟨rfl, rfl⟩
    · rw [pk_un hj2, pk_un hj2]
      exact hv j (by omega)
theorem become_SR {a b : Sm} {w : Nat → Int32} {o : Nat} (h : SR b w o) : SR (F_X1_become a b) w o := by
  have h1 := become_L b 10 0 a rfl (fun j hj => by omega)
  exact SR_same h1.1 h1.2 h
theorem image_L (st kt : Nat → Int32) (p0 : Int32) (P : Nat) (hP : ∀ k, k < 23 → ((23 * p0) + nI k).toNatClampNeg = P + k) : ∀ (c k : Nat) (z : Nat → Int32), k + c = 23 → ∃ z', L_X3_image_15 st kt p0 (c + 1) (nI k) z = (1, z', upd kt p0.toNatClampNeg (vp_nar .boolean 1)) ∧ (∀ j, k ≤ j → j < 23 → z' (P + j) = st j) ∧ (∀ j, j < P + k ∨ P + 23 ≤ j → z' j = z j) := by
  intro c
  induction c with
  | zero =>
    intro k z h
    have hk : k = 23 := by omega
    subst hk
    exact ⟨z, if_pos (by decide), fun j h1 h2 => by omega, fun _ _ => rfl⟩
  | succ c ih =>
    intro k z h
    have hn : ¬ (23 : Int32) ≤ nI k := nI_ge (a := k) (b := 23) (by omega) (by decide)
    have e : L_X3_image_15 st kt p0 (c + 1 + 1) (nI k) z = L_X3_image_15 st kt p0 (c + 1) (nI k + 1) (upd z ((23 * p0) + nI k).toNatClampNeg (st (nI k).toNatClampNeg)) := if_neg hn
    rw [e, nI_1, nI_clamp (by omega), hP k (by omega)]
    obtain ⟨z', h1, h2, h3⟩ := ih (k + 1) (upd z (P + k) (st k)) (by omega)
    refine ⟨z', h1, fun j hj1 hj2 => ?_, fun j hj => ?_⟩
    · by_cases hjk : j = k
      · subst hjk
        rw [h3 (P + j) (by omega), pk_us]
      · exact h2 j (by omega) hj2
    · rw [h3 j (by omega), pk_un (by omega)]
theorem restore_L (im kt : Nat → Int32) (p0 : Int32) (P : Nat) (hP : ∀ k, k < 23 → ((23 * p0) + nI k).toNatClampNeg = P + k) : ∀ (c k : Nat) (z : Nat → Int32), k + c = 23 → ∃ z', L_X3_restore_27 im kt p0 (c + 1) (nI k) z = (1, z') ∧ (∀ j, k ≤ j → j < 23 → z' j = im (P + j)) ∧ (∀ j, j < k → z' j = z j) := by
  intro c
  induction c with
  | zero =>
    intro k z h
    have hk : k = 23 := by omega
    subst hk
    exact ⟨z, if_pos (by decide), fun j h1 h2 => by omega, fun _ _ => rfl⟩
  | succ c ih =>
    intro k z h
    have hn : ¬ (23 : Int32) ≤ nI k := nI_ge (a := k) (b := 23) (by omega) (by decide)
    have e : L_X3_restore_27 im kt p0 (c + 1 + 1) (nI k) z = L_X3_restore_27 im kt p0 (c + 1) (nI k + 1) (upd z (nI k).toNatClampNeg (im ((23 * p0) + nI k).toNatClampNeg)) := if_neg hn
    rw [e, nI_1, nI_clamp (by omega), hP k (by omega)]
    obtain ⟨z', h1, h2, h3⟩ := ih (k + 1) (upd z k (im (P + k))) (by omega)
    refine ⟨z', h1, fun j hj1 hj2 => ?_, fun j hj => ?_⟩
    · by_cases hjk : j = k
      · subst hjk
        rw [h3 j (by omega), pk_us]
      · exact h2 j (by omega) hj2
    · rw [h3 j (by omega), pk_un (by omega)]
theorem hP0 : ∀ k, k < 23 → (((23 : Int32) * 0) + nI k).toNatClampNeg = 0 + k := by decide +kernel
theorem hP1 : ∀ k, k < 23 → (((23 : Int32) * 1) + nI k).toNatClampNeg = 23 + k := by decide +kernel
theorem nar1 : vp_nar .boolean 1 = 1 := by rfl
theorem op_image (h : Rel now im0 im1 kp st im kt) (p0 : Int32) : (F_X2_image now im0 im1 kp p0).1 = (F_X3_image st im kt p0).1 ∧ Rel now (F_X2_image now im0 im1 kp p0).2.1 (F_X2_image now im0 im1 kp p0).2.2.1 (F_X2_image now im0 im1 kp p0).2.2.2 st (F_X3_image st im kt p0).2.1 (F_X3_image st im kt p0).2.2 := by
  have e : F_X2_isBetween p0 0 1 = F_X3_in p0.toInt64 0 1 := btw_in p0 0 1
  unfold F_X2_image F_X3_image
  rw [e]
  by_cases c : F_X3_in p0.toInt64 0 1 = 0
  · rw [if_pos c, if_pos c]; exact ⟨rfl, h⟩
  · rw [if_neg c, if_neg c]
    obtain ⟨hn, hi0, hi1, hk⟩ := h
    rcases in01p c with hp | hp
    · subst hp
      obtain ⟨z', h1, h2, h3⟩ := image_L st kt 0 0 hP0 23 0 im rfl
      have h1 : L_X3_image_15 st kt 0 24 0 im = (1, z', upd kt 0 (vp_nar .boolean 1)) := h1
      rw [h1, if_pos rfl, nar1]
      refine ⟨rfl, hn, fun _ => become_SR (SR_cong (fun j hj => ?_) hn), fun h9 => ?_, ?_⟩
      · show z' (0 + j) = st (0 + j)
        rw [h2 j (by omega) hj, Nat.zero_add]
      · have h9 : ¬ kt 1 = 0 := h9
        exact SR_cong (fun j hj => h3 (23 + j) (by omega)) (hi1 h9)
      · show kp ||| (1 <<< ((0 : Int32) &&& 31)) = (if upd kt 0 1 0 = 0 then 0 else 1) + (if upd kt 0 1 1 = 0 then 0 else 2)
        rw [pk_us, pk_un (by omega), hk]
        by_cases a0 : kt 0 = 0 <;> by_cases a1 : kt 1 = 0 <;> simp only [a0, a1, if_true, if_false] <;> decide
    · subst hp
      obtain ⟨z', h1, h2, h3⟩ := image_L st kt 1 23 hP1 23 0 im rfl
      have h1 : L_X3_image_15 st kt 1 24 0 im = (1, z', upd kt 1 (vp_nar .boolean 1)) := h1
      rw [h1, if_neg (by decide), nar1]
      refine ⟨rfl, hn, fun h9 => ?_, fun _ => become_SR (SR_cong (fun j hj => ?_) hn), ?_⟩
      · have h9 : ¬ kt 0 = 0 := h9
        exact SR_cong (fun j hj => h3 (0 + j) (by omega)) (hi0 h9)
      · show z' (23 + j) = st (0 + j)
        rw [h2 j (by omega) hj, Nat.zero_add]
      · show kp ||| (1 <<< ((1 : Int32) &&& 31)) = (if upd kt 1 1 0 = 0 then 0 else 1) + (if upd kt 1 1 1 = 0 then 0 else 2)
        rw [pk_un (by omega), pk_us, hk]
        by_cases a0 : kt 0 = 0 <;> by_cases a1 : kt 1 = 0 <;> simp only [a0, a1, if_true, if_false] <;> decide
theorem kp_in {kp : Int32} {kt : Nat → Int32} (hk : kp = (if kt 0 = 0 then 0 else 1) + (if kt 1 = 0 then 0 else 2)) : (F_X2_isIn kp 0 = 0 ↔ kt 0 = 0) ∧ (F_X2_isIn kp 1 = 0 ↔ kt 1 = 0) := by
  subst hk
  by_cases a0 : kt 0 = 0 <;> by_cases a1 : kt 1 = 0 <;> simp only [a0, a1, if_true, if_false] <;> decide
theorem op_restore (h : Rel now im0 im1 kp st im kt) (p0 : Int32) : (F_X2_restore now im0 im1 kp p0).1 = (F_X3_restore st im kt p0).1 ∧ Rel (F_X2_restore now im0 im1 kp p0).2 im0 im1 kp (F_X3_restore st im kt p0).2 im kt := by
  have e : F_X2_isBetween p0 0 1 = F_X3_in p0.toInt64 0 1 := btw_in p0 0 1
  unfold F_X2_restore F_X3_restore
  rw [e]
  by_cases c : F_X3_in p0.toInt64 0 1 = 0
  · rw [if_pos c, if_pos c]; exact ⟨rfl, h⟩
  · rw [if_neg c, if_neg c]
    have h' := h
    obtain ⟨hn, hi0, hi1, hk⟩ := h
    obtain ⟨k0, k1⟩ := kp_in hk
    rcases in01p c with hp | hp
    · subst hp
      have z0 : (0 : Int32).toNatClampNeg = 0 := by decide
      rw [z0]
      by_cases a0 : kt 0 = 0
      · rw [if_pos (k0.mpr a0), if_pos a0]; exact ⟨rfl, h'⟩
      · rw [if_neg (fun q => a0 (k0.mp q)), if_neg a0, if_pos rfl]
        obtain ⟨z', h1, h2, -⟩ := restore_L im kt 0 0 hP0 23 0 st rfl
        have h1 : L_X3_restore_27 im kt 0 24 0 st = (1, z') := h1
        rw [h1]
        refine ⟨rfl, SR_cong (fun j hj => ?_) (become_SR (hi0 a0)), hi0, hi1, hk⟩
        show z' (0 + j) = im (0 + j)
        rw [Nat.zero_add, h2 j (by omega) hj, Nat.zero_add]
    · subst hp
      have z0 : (1 : Int32).toNatClampNeg = 1 := by decide
      rw [z0]
      by_cases a1 : kt 1 = 0
      · rw [if_pos (k1.mpr a1), if_pos a1]; exact ⟨rfl, h'⟩
      · rw [if_neg (fun q => a1 (k1.mp q)), if_neg a1, if_neg (by decide)]
        obtain ⟨z', h1, h2, -⟩ := restore_L im kt 1 23 hP1 23 0 st rfl
        have h1 : L_X3_restore_27 im kt 1 24 0 st = (1, z') := h1
        rw [h1]
        refine ⟨rfl, SR_cong (fun j hj => ?_) (become_SR (hi1 a1)), hi0, hi1, hk⟩
        show z' (0 + j) = im (23 + j)
        rw [Nat.zero_add, h2 j (by omega) hj]
end OPS1
