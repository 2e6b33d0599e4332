/-! a limit; TRIM -/
theorem SR_taken {v : Sm} {z : Nat → Int32} (h : SR v z 0) {t : Int32} (ht : ∀ j : Nat, v.2.2.1.toInt ≤ (j : Int) → j < 32 → bt t j = false) : SR (v.1, v.2.1, v.2.2.1, t, v.2.2.2.2) (upd z 21 t) 0 := by
  obtain ⟨h1, h2, h3, h4, h5, h6, h7⟩ := h
  refine ⟨fun j hj => ?_, ?_, ?_, ?_, h5, ht, h7⟩
  · show v.1 j = upd z 21 t (0 + j) ∧ v.2.1 j = upd z 21 t (0 + (10 + j)) ∧ _
    rw [pk_un (by omega), pk_un (by omega)]
    exact h1 j hj
  · show v.2.2.1 = upd z 21 t (0 + 20)
    rw [pk_un (by omega)]; exact h2
  · show t = upd z 21 t 21
    rw [pk_us]
  · show v.2.2.2.2 = upd z 21 t (0 + 22)
    rw [pk_un (by omega)]; exact h4
theorem cmp_int {x y : Int} (hx : SM x) (hy : SM y) : (lg_cmp (o64 x) (o64 y) ≤ 0) ↔ x ≤ y := by
  rw [lg_cmp_le, Int64.le_iff_toInt_le, o_int hx, o_int hy]
theorem bb_lim {p : Int32} (hp : 0 ≤ p.toInt ∧ p.toInt ≤ 9999) : BB p.toInt 9999 := by
  unfold BB; omega
theorem bb_zs {now : Sm} {st : Nat → Int32} (h : SR now st 0) {a : Z9} (hg : GD 11 a) {k : Nat} (hk : k < 10) : BB (zs now a k : Int) 261685248000000 := by
  have := zs_le h hg hk
  show ((zs now a k : Nat) : Int).natAbs ≤ _
  omega
theorem lim_m {now : Sm} {st : Nat → Int32} (h : SR now st 0) {q : Rd} {a : Z9} (hg : GD 11 a) (hq : ML q a) {k : Nat} (hk : k < 10) {p : Int32} (hp : 0 ≤ p.toInt ∧ p.toInt ≤ 9999) : (lg_cmp (F_X3_plain (F_X3_offOf st q (nI k))) (p.toInt64 * q.2.2.2.2.2.2.2.2.2.2.2.2) ≤ 0) ↔ (zs now a k : Int) ≤ p.toInt * zBY a := by
  rw [ms_eq h hg hq hk, hq.1, ito, lN_o]
  have e : o64 p.toInt * o64 (zBY a) = o64 (p.toInt * zBY a) := (Int64.ofInt_mul _ _).symm
  rw [e]
  exact cmp_int ((bb_zs h hg hk).le (Nat.le_of_ble_eq_true rfl)) (((bb_lim hp).mul (bd_BY hg)).le (Nat.le_of_ble_eq_true rfl))
theorem lim_c {now : Sm} {st : Nat → Int32} (h : SR now st 0) {r : Rd} {a : Z9} (hg : GD 11 a) (hr : CL r a) (hn : 0 < a.1) {k : Nat} (hk : k < 10) (hM : (k : Int) < now.2.2.1.toInt) {p : Int32} (hp : 0 ≤ p.toInt ∧ p.toInt ≤ 9999) : (F_X2_isSizeAbove now r (nI k) p = 0) ↔ (zs now a k : Int) ≤ p.toInt * zBY a := by
  have hnn := Int.mul_pos hn hn
  have e1 : lN ((a.1 * a.1).natAbs * zs now a k) = o64 (a.1 * a.1 * (zs now a k : Int)) := by
    rw [lN_o, Int.natCast_mul]
    congr 2
    omega
  have e2 : o64 p.toInt * o64 (a.1 * a.1 * zBY a) = o64 (a.1 * a.1 * (p.toInt * zBY a)) := by
    rw [show a.1 * a.1 * (p.toInt * zBY a) = p.toInt * (a.1 * a.1 * zBY a) by grind]
    exact (Int64.ofInt_mul _ _).symm
  have x : (lg_cmp (F_X2_sizeUpper now r (nI k)) (p.toInt64 * F_X0_fullLower r) ≤ 0) ↔ (zs now a k : Int) ≤ p.toInt * zBY a := by
    rw [cs_eq h hg hr hk hM, full_c hr, ito, e1, e2, cmp_int (((bd_nn hg).mul (bb_zs h hg hk)).le (Nat.le_of_ble_eq_true rfl)) (((bd_nn hg).mul ((bb_lim hp).mul (bd_BY hg))).le (Nat.le_of_ble_eq_true rfl))]
    exact ⟨fun h => Int.le_of_mul_le_mul_left h hnn, fun h => Int.mul_le_mul_of_nonneg_left h (by omega)⟩
  unfold F_X2_isSizeAbove
  by_cases c : lg_cmp (F_X2_sizeUpper now r (nI k)) (p.toInt64 * F_X0_fullLower r) ≤ 0
  · rw [if_pos c]
    exact ⟨fun _ => x.mp c, fun _ => rfl⟩
  · rw [if_neg c]
    exact ⟨fun h => absurd h (by decide), fun h => absurd (x.mpr h) c⟩
theorem trim_joint {p0 : Int32} (hp : 0 ≤ p0.toInt ∧ p0.toInt ≤ 9999) {ct0 : Nat} (h10 : ct0 ≤ 10) : ∀ (ct n m : Nat) (v : Sm) (z : Nat → Int32) (r q : Rd) (i : Int32), SR v z 0 → CL r (aS v v.2.2.2.1) → ML q (aS v v.2.2.2.1) → ct = fb_ct (bt v.2.2.2.1) 10 → ct ≤ ct0 → n + (ct0 - ct) = 11 → ct + 1 ≤ m → ((zBY (aS v v.2.2.2.1) = 0 ∧ i = -6) ∨ (¬ zBY (aS v v.2.2.2.1) = 0 ∧ i = F_X3_worstOf z q (z 21))) → (L_X2_trim_44 p0 n (nI ct0) (nI (ct0 - ct)) v r).1 = (L_X3_trim_39 p0 m (nI (ct0 - ct)) i z q).1 ∧ SR (L_X2_trim_44 p0 n (nI ct0) (nI (ct0 - ct)) v r).2.1 (L_X3_trim_39 p0 m (nI (ct0 - ct)) i z q).2.1 0 := by
  intro ct
  induction ct with
  | zero =>
    intro n m v z r q i hS hc hm hct hle hn hmm hi
    obtain ⟨n, rfl⟩ : ∃ g, n = g + 1 := ⟨n - 1, by omega⟩
    obtain ⟨m, rfl⟩ : ∃ g, m = g + 1 := ⟨m - 1, by omega⟩
    obtain ⟨M, hM, e1, e2, hb⟩ := SR_M hS
    have hbc : F_J6_bitCount_0f7a4 v.2.2.2.1 = nI 0 := by rw [bc_eq (fun j hj hj2 => hb j (by omega) hj2), size_eq, ← hct]
    have ec : L_X2_trim_44 p0 (n + 1) (nI ct0) (nI (ct0 - 0)) v r = (nI ct0 - F_J6_bitCount_0f7a4 v.2.2.2.1, v, r) := by
      by_cases hx : (10 : Int32) ≤ nI (ct0 - 0)
      · exact if_pos hx
      · refine (if_neg hx).trans (if_pos ?_)
        unfold F_X2_isToTrim
        exact if_pos (by rw [hbc]; decide)
    have em : L_X3_trim_39 p0 (m + 1) (nI (ct0 - 0)) i z q = (nI (ct0 - 0), z, q) := by
      by_cases hx : i < 0
      · exact if_pos hx
      · refine (if_neg hx).trans (if_pos ?_)
        have h3 : v.2.2.2.1 = z 21 := hS.2.2.1
        rw [← h3, size_eq, ← hct]
        decide
    rw [ec, em, hbc]
    exact ⟨by show nI ct0 - nI 0 = nI (ct0 - 0); rw [pk_sub (by omega)], hS⟩
  | succ ct ih =>
    intro n m v z r q i hS hc hm hct hle hn hmm hi
    obtain ⟨n, rfl⟩ : ∃ g, n = g + 1 := ⟨n - 1, by omega⟩
    obtain ⟨m, rfl⟩ : ∃ g, m = g + 1 := ⟨m - 1, by omega⟩
    obtain ⟨M, hM, e1, e2, hb⟩ := SR_M hS
    have hmi : v.2.2.1.toInt = (M : Int) := by rw [e1, nI_toInt (by omega)]
    have h3 : v.2.2.2.1 = z 21 := hS.2.2.1
    have hg := gd_aS hS v.2.2.2.1
    have hbc : F_J6_bitCount_0f7a4 v.2.2.2.1 = nI (ct + 1) := by rw [bc_eq (fun j hj hj2 => hb j (by omega) hj2), size_eq, ← hct]
    have hsz : F_X3_size (z 21) = nI (ct + 1) := by rw [← h3, size_eq, ← hct]
    have hstop : L_X2_trim_44 p0 (n + 1) (nI ct0) (nI (ct0 - (ct + 1))) v r = (nI ct0 - F_J6_bitCount_0f7a4 v.2.2.2.1, v, r) → L_X3_trim_39 p0 (m + 1) (nI (ct0 - (ct + 1))) i z q = (nI (ct0 - (ct + 1)), z, q) → ((L_X2_trim_44 p0 (n + 1) (nI ct0) (nI (ct0 - (ct + 1))) v r).1 = (L_X3_trim_39 p0 (m + 1) (nI (ct0 - (ct + 1))) i z q).1 ∧ SR (L_X2_trim_44 p0 (n + 1) (nI ct0) (nI (ct0 - (ct + 1))) v r).2.1 (L_X3_trim_39 p0 (m + 1) (nI (ct0 - (ct + 1))) i z q).2.1 0) := by
      intro ec em
      rw [ec, em, hbc]
      exact ⟨by show nI ct0 - nI (ct + 1) = nI (ct0 - (ct + 1)); rw [pk_sub (by omega)], hS⟩
    have hle4 : (nI (ct + 1) ≤ 4) ↔ ct + 1 ≤ 4 := nI_leI (a := ct + 1) (b := 4) (by omega) (by decide)
    have stopC : F_X2_isToTrim v r p0 = 0 → L_X2_trim_44 p0 (n + 1) (nI ct0) (nI (ct0 - (ct + 1))) v r = (nI ct0 - F_J6_bitCount_0f7a4 v.2.2.2.1, v, r) := by
      intro ht
      by_cases hx : (10 : Int32) ≤ nI (ct0 - (ct + 1))
      · exact if_pos hx
      · exact (if_neg hx).trans (if_pos ht)
    by_cases h4 : ct + 1 ≤ 4
    · refine hstop (stopC ?_) ?_
      · unfold F_X2_isToTrim
        exact if_pos (by rw [hbc]; exact hle4.mpr h4)
      · by_cases hx : i < 0
        · exact if_pos hx
        · exact (if_neg hx).trans (if_pos (by rw [hsz]; exact hle4.mpr h4))
    · have n4c : ¬ F_J6_bitCount_0f7a4 v.2.2.2.1 ≤ 4 := by rw [hbc]; exact fun q => h4 (hle4.mp q)
      have n4m : ¬ F_X3_size (z 21) ≤ 4 := by rw [hsz]; exact fun q => h4 (hle4.mp q)
      rcases hi with ⟨hz, hi⟩ | ⟨hz, hi⟩
      · refine hstop (stopC ?_) (if_pos (by rw [hi]; decide))
        unfold F_X2_isToTrim
        rw [if_neg n4c, if_neg (fun q => ((flat_iff hg hc).mp q) hz)]
      · have hn0 := (by_nn hg).2 hz
        obtain ⟨w1, j, hj, hjM, hbj, w2⟩ := worst_same hS hc hm hz
        have hij : i = nI j := hi.trans w2
        have ni : ¬ i < 0 := by rw [hij]; exact nI_pos (n := j) (by omega)
        have lc := lim_c hS hg hc hn0 hj hjM hp
        have lm := lim_m hS hg hm hj hp
        by_cases hl : (zs v (aS v v.2.2.2.1) j : Int) ≤ p0.toInt * zBY (aS v v.2.2.2.1)
        · refine hstop (stopC ?_) ?_
          · unfold F_X2_isToTrim
            rw [if_neg n4c, if_pos ((flat_iff hg hc).mpr hz), w1, w2, if_pos (lc.mpr hl)]
          · refine (if_neg ni).trans ((if_neg n4m).trans (if_pos ?_))
            rw [hij]
            exact lm.mpr hl
        · have hx : ¬ (10 : Int32) ≤ nI (ct0 - (ct + 1)) := nI_ge (a := ct0 - (ct + 1)) (b := 10) (by omega) (by decide)
          have ht : ¬ F_X2_isToTrim v r p0 = 0 := by
            unfold F_X2_isToTrim
            rw [if_neg n4c, if_pos ((flat_iff hg hc).mpr hz), w1, w2, if_neg (fun q => hl (lc.mp q))]
            decide
          have ec : L_X2_trim_44 p0 (n + 1) (nI ct0) (nI (ct0 - (ct + 1))) v r = L_X2_trim_44 p0 n (nI ct0) (nI (ct0 - (ct + 1)) + 1) (v.1, v.2.1, v.2.2.1, v.2.2.2.1 &&& (((1 : Int32) <<< ((F_X2_worstSample v r) &&& 31)) ^^^ (-1)), v.2.2.2.2) (F_X2_layTheRound (v.1, v.2.1, v.2.2.1, v.2.2.2.1 &&& (((1 : Int32) <<< ((F_X2_worstSample v r) &&& 31)) ^^^ (-1)), v.2.2.2.2) r) := (if_neg hx).trans (if_neg ht)
          have em : L_X3_trim_39 p0 (m + 1) (nI (ct0 - (ct + 1))) i z q = (if ((F_X3_layTaken (upd z 21 ((z 21) &&& ((1 <<< (i &&& 31)) ^^^ (-1)))) q).1) = 0 then (L_X3_trim_39 p0 m (nI (ct0 - (ct + 1)) + 1) (-6) (upd z 21 ((z 21) &&& ((1 <<< (i &&& 31)) ^^^ (-1)))) ((F_X3_layTaken (upd z 21 ((z 21) &&& ((1 <<< (i &&& 31)) ^^^ (-1)))) q).2)) else (L_X3_trim_39 p0 m (nI (ct0 - (ct + 1)) + 1) (F_X3_worstOf (upd z 21 ((z 21) &&& ((1 <<< (i &&& 31)) ^^^ (-1)))) ((F_X3_layTaken (upd z 21 ((z 21) &&& ((1 <<< (i &&& 31)) ^^^ (-1)))) q).2) ((upd z 21 ((z 21) &&& ((1 <<< (i &&& 31)) ^^^ (-1)))) 21)) (upd z 21 ((z 21) &&& ((1 <<< (i &&& 31)) ^^^ (-1)))) ((F_X3_layTaken (upd z 21 ((z 21) &&& ((1 <<< (i &&& 31)) ^^^ (-1)))) q).2))) := by
            refine (if_neg ni).trans ((if_neg n4m).trans (if_neg ?_))
            rw [hij]
            exact fun q => hl (lm.mp q)
          have eij : nI (ct0 - (ct + 1)) + 1 = nI (ct0 - ct) := by rw [nI_1]; congr 1; omega
          rw [ec, em, w1, w2, hij, eij, ← h3]
          have hcl : ∀ l : Nat, v.2.2.1.toInt ≤ (l : Int) → l < 32 → bt (v.2.2.2.1 &&& (((1 : Int32) <<< (nI j &&& 31)) ^^^ (-1))) l = false := by
            intro l hl1 hl2
            rw [b_clear _ (by omega) hl2]
            by_cases hlj : l = j
            · rw [if_pos hlj]
            · rw [if_neg hlj]; exact hS.2.2.2.2.2.1 l hl1 hl2
          have hct' : ct = fb_ct (bt (v.2.2.2.1 &&& (((1 : Int32) <<< (nI j &&& 31)) ^^^ (-1)))) 10 := by
            have e := fb_ct_upd (bt v.2.2.2.1) false (i := j) (n := 10) hj
            rw [fb_ct_cong (q := fun l => if l = j then false else bt v.2.2.2.1 l) (fun l hl => b_clear _ (by omega) (by omega))]
            rw [hbj, if_pos rfl, if_neg (by decide)] at e
            omega
          generalize v.2.2.2.1 &&& (((1 : Int32) <<< (nI j &&& 31)) ^^^ (-1)) = T at hcl hct' ⊢
          have hS' := SR_taken hS hcl
          obtain ⟨-, hc', hm', g1, -⟩ := laid hS' r q
          by_cases hz' : zBY (aS (v.1, v.2.1, v.2.2.1, T, v.2.2.2.2) T) = 0
          · rw [if_pos (g1.mpr hz')]
            exact ih n m _ _ _ _ _ hS' hc' hm' hct' (by omega) (by omega) (by omega) (Or.inl ⟨hz', rfl⟩)
          · rw [if_neg (fun q => hz' (g1.mp q))]
            exact ih n m _ _ _ _ _ hS' hc' hm' hct' (by omega) (by omega) (by omega) (Or.inr ⟨hz', rfl⟩)
section OPS4
variable {now im0 im1 : Sm} {kp : Int32} {st im kt : Nat → Int32}
theorem lim_in {p0 : Int32} (h : ¬ F_X3_in p0.toInt64 0 9999 = 0) : 0 ≤ p0.toInt ∧ p0.toInt ≤ 9999 := by
  have h1 := in_ne h
  rw [Int32.toInt_toInt64] at h1
  exact h1
theorem op_trim (h : Rel now im0 im1 kp st im kt) (r md : Rd) (p0 : Int32) : (F_X2_trim now r p0).1 = (F_X3_trim st md p0).1 ∧ Rel (F_X2_trim now r p0).2.1 im0 im1 kp (F_X3_trim st md p0).2.1 im kt := by
  obtain ⟨hg, hc, hm, h1, h2⟩ := laid h.1 r md
  have e0 : F_X2_isBetween p0 0 9999 = F_X3_in p0.toInt64 0 9999 := btw_in p0 0 9999
  unfold F_X2_trim F_X3_trim
  generalize F_X2_layTheRound now r = R at hc h2 ⊢
  generalize F_X3_layTaken st md = Q at hm h1 ⊢
  rw [e0]
  by_cases c0 : F_X3_in p0.toInt64 0 9999 = 0
  · rw [if_pos c0, if_pos c0]; exact ⟨rfl, h⟩
  · rw [if_neg c0, if_neg c0]
    by_cases hz : zBY (aS now now.2.2.2.1) = 0
    · rw [if_neg (fun q => (h2.mp q) hz), if_pos (h1.mpr hz)]; exact ⟨rfl, h⟩
    · rw [if_pos (h2.mpr hz), if_neg (fun q => hz (h1.mp q))]
      obtain ⟨M, hM, e1, e2, hb⟩ := SR_M h.1
      have hle := fb_ct_le (bt now.2.2.2.1) 10
      have hbc : F_J6_bitCount_0f7a4 now.2.2.2.1 = nI (fb_ct (bt now.2.2.2.1) 10) := by rw [bc_eq (fun j hj hj2 => hb j (by omega) hj2), size_eq]
      have key := trim_joint (lim_in c0) hle (fb_ct (bt now.2.2.2.1) 10) 11 11 now st R Q.2 _ h.1 hc hm rfl (Nat.le_refl _) (by omega) (by omega) (Or.inr ⟨hz, rfl⟩)
      rw [Nat.sub_self] at key
      rw [hbc]
      exact ⟨key.1, key.2, h.2⟩
end OPS4
