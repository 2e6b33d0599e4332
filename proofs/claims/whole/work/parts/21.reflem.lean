/-! the reference: where its indices stay, what its rounds say -/
theorem i_nI {i : Int32} {k : Nat} (hi : i.toInt = (k : Int)) : i = nI k := by
  have h := Int32.toInt_lt i
  exact Int32.toInt_inj.mp (by rw [hi, nI_toInt (by omega)])
theorem b_one : ∀ i, i < 32 → bt 1 i = decide (i = 0) := by decide +kernel
theorem q_bit (s : Int32) {k : Nat} (hk : k < 32) : (s >>> (nI k &&& 31)) &&& 1 = if bt s k then 1 else 0 := by
  apply b_ext
  intro i hi
  rw [b_and, b_sshr k hk s hi, b_one i hi]
  by_cases h0 : i = 0
  · subst h0
    rw [if_pos (by omega)]
    cases hb : bt s k
    · decide
    · decide
  · rw [decide_eq_false h0, Bool.and_false]
    cases hb : bt s k
    · rw [if_neg (by decide), b_0]
    · rw [if_pos rfl, b_one i hi, decide_eq_false h0]
theorem q_bit1 (s : Int32) {k : Nat} (hk : k < 32) : ((s >>> (nI k &&& 31)) &&& 1 = 1) ↔ bt s k = true := by
  rw [q_bit s hk]
  cases bt s k
  · exact ⟨fun h => absurd h (by decide), fun h => absurd h (by decide)⟩
  · exact ⟨fun _ => rfl, fun _ => rfl⟩
theorem b_clear (x : Int32) {k j : Nat} (hk : k < 32) (hj : j < 32) : bt (x &&& (((1 : Int32) <<< (nI k &&& 31)) ^^^ (-1))) j = if j = k then false else bt x j := by
  rw [b_and, b_xor, b_m1 j hj, b_shl k hk 1 hj]
  by_cases h : j = k
  · subst h
    rw [if_pos rfl, Nat.sub_self, b_one 0 (by decide)]
    simp
  · rw [if_neg h]
    by_cases h2 : k ≤ j
    · rw [b_one (j - k) (by omega), decide_eq_false (show ¬ j - k = 0 by omega)]
      simp
    · rw [decide_eq_false h2]
      simp
theorem b_set (x : Int32) {k j : Nat} (hk : k < 32) (hj : j < 32) : bt (x ||| ((1 : Int32) <<< (nI k &&& 31))) j = if j = k then true else bt x j := by
  rw [b_or, b_shl k hk 1 hj]
  by_cases h : j = k
  · subst h
    rw [if_pos rfl, Nat.sub_self, b_one 0 (by decide)]
    simp
  · rw [if_neg h]
    by_cases h2 : k ≤ j
    · rw [b_one (j - k) (by omega), decide_eq_false (show ¬ j - k = 0 by omega)]
      simp
    · rw [decide_eq_false h2]
      simp
theorem size_L (s : Int32) : ∀ (c k : Nat), k + c = 10 → L_X3_size_4 s (c + 1) (nI (fb_ct (bt s) k)) (nI k) = nI (fb_ct (bt s) 10) := by
  intro c
  induction c with
  | zero =>
    intro k h
    have hk : k = 10 := by omega
    subst hk
    exact if_pos (by decide)
  | succ c ih =>
    intro k h
    have hn : ¬ (10 : Int32) ≤ nI k := nI_ge (a := k) (b := 10) (by omega) (by decide)
    refine (if_neg hn).trans ?_
    rw [q_bit s (show k < 32 by omega), nI_1]
    have e : nI (fb_ct (bt s) k) + (if bt s k then 1 else 0) = nI (fb_ct (bt s) (k + 1)) := by
      rw [fb_ct_succ]
      cases bt s k
      · simp
      · simp [nI_1]
    rw [e]
    exact ih (k + 1) (by omega)
theorem size_eq (s : Int32) : F_X3_size s = nI (fb_ct (bt s) 10) := size_L s 10 0 rfl
theorem size_int (s : Int32) : (F_X3_size s).toInt = (fb_ct (bt s) 10 : Int) := by
  have := fb_ct_le (bt s) 10
  rw [size_eq, nI_toInt (by omega)]
theorem size_ge0 (x : Int32) : 0 ≤ (F_X3_size x).toInt := by
  rw [size_int]; omega
theorem size_lt11 (x : Int32) : (F_X3_size x).toInt < 11 := by
  have := fb_ct_le (bt x) 10
  rw [size_int]; omega
theorem size_clear {x i : Int32} {k : Nat} (hk : k < 10) (hi : i.toInt = (k : Int)) (hb : (x >>> (i &&& 31)) &&& 1 = 1) : (F_X3_size (x &&& (((1 : Int32) <<< (i &&& 31)) ^^^ (-1)))).toInt + 1 = (F_X3_size x).toInt := by
  have hn := i_nI hi
  subst hn
  have hb2 := (q_bit1 x (show k < 32 by omega)).mp hb
  rw [size_int, size_int]
  have e := fb_ct_upd (bt x) false (i := k) (n := 10) hk
  rw [fb_ct_cong (q := fun j => if j = k then false else bt x j) (fun j hj => b_clear x (by omega) (by omega))]
  rw [hb2, if_pos rfl, if_neg (by decide)] at e
  omega
theorem sh_pow : ∀ M, M < 11 → (1 : Int32) <<< (nI M &&& 31) = nI (2 ^ M) := by decide +kernel
theorem pow_le10 {M : Nat} (h : M ≤ 10) : 2 ^ M ≤ 1024 := Nat.pow_le_pow_right (by decide) h
theorem MB_n {st : Nat → Int32} (hm : MB st) : ∃ M : Nat, M ≤ 10 ∧ st 20 = nI M := by
  obtain ⟨h1, h2⟩ := hm
  exact ⟨(st 20).toInt.toNat, by omega, i_nI (by omega)⟩
theorem i_ltSh {st : Nat → Int32} {i : Int32} {k : Nat} (hm : MB st) (hi : i.toInt = (k : Int)) (c : ¬ (1 : Int32) <<< (st 20 &&& 31) ≤ i) : k < 1024 := by
  obtain ⟨M, h1, h2⟩ := MB_n hm
  rw [h2, sh_pow M (by omega)] at c
  have h3 := i_ltN hi c
  have h4 := pow_le10 h1
  rw [nI_toInt (by omega)] at h3
  omega
theorem in01p {p0 : Int32} (h : ¬ F_X3_in p0.toInt64 0 1 = 0) : p0 = 0 ∨ p0 = 1 := by
  have h1 := in_ne h
  have e0 : (0 : Int64).toInt = 0 := by decide
  have e1 : (1 : Int64).toInt = 1 := by decide
  rw [Int32.toInt_toInt64, e0, e1] at h1
  rcases (show p0.toInt = 0 ∨ p0.toInt = 1 by omega) with h | h
  · exact Or.inl (Int32.toInt_inj.mp (by rw [h]; decide))
  · exact Or.inr (Int32.toInt_inj.mp (by rw [h]; decide))
theorem vp_kt {p0 : Int32} (h : ¬ F_X3_in p0.toInt64 0 1 = 0) : vp_in p0 2 := by
  rcases in01p h with h | h <;> subst h <;> exact vp_lit (by decide)
theorem vp_im {p0 i : Int32} {k : Nat} (h : ¬ F_X3_in p0.toInt64 0 1 = 0) (hi : i.toInt = (k : Int)) (hk : k < 23) : vp_in (23 * p0 + i) 46 := by
  have e0 : ((23 : Int32) * 0).toInt = 0 := by decide
  have e1 : ((23 : Int32) * 1).toInt = 23 := by decide
  refine vp_in_iff.mpr ?_
  rcases in01p h with h | h <;> subst h <;> rw [i_add (by omega) (by omega)] <;> omega
theorem lay_by {st : Nat → Int32} {md : Rd} {p0 : Int32} (h : ¬ (F_X3_lay st md p0).1 = 0) : ¬ (F_X3_lay st md p0).2.2.2.2.2.2.2.2.2.2.2.2.2 = 0 := by
  unfold F_X3_lay at h ⊢
  by_cases c : lg_cmp ((F_X3_layRound (F_X3_sumSet st md p0)).2.2.2.2.2.2.2.2.2.2.2.2) 0 = 0
  · rw [if_pos c] at h; exact absurd rfl h
  · rw [if_neg c]; exact lcz c
theorem layT_eq (st : Nat → Int32) (md : Rd) : F_X3_layTaken st md = F_X3_lay st md (st 21) := by
  unfold F_X3_layTaken
  generalize F_X3_lay st md (st 21) = x
  rfl
theorem layT_by {st : Nat → Int32} {md : Rd} (h : ¬ (F_X3_layTaken st md).1 = 0) : ¬ (F_X3_layTaken st md).2.2.2.2.2.2.2.2.2.2.2.2.2 = 0 := by
  rw [layT_eq] at h ⊢
  exact lay_by h
theorem sum_none {st : Nat → Int32} {p : Int32} {M : Nat} (hM : M ≤ 10) (hs : st 20 = nI M) (hz : ∀ j, j < M → bt p j = false) : ∀ (c k : Nat) (q : Rd), k + c = 10 → k ≤ M → L_X3_sumSet_47 st p (c + 1) (nI k) q = q := by
  intro c
  induction c with
  | zero =>
    intro k q h hk
    exact if_pos (by rw [hs]; exact nI_le (by omega) (by omega))
  | succ c ih =>
    intro k q h hk
    by_cases hk2 : k = M
    · exact if_pos (by rw [hs, hk2]; exact nI_le (Nat.le_refl _) (by omega))
    · refine (if_neg (by rw [hs]; exact nI_ge (by omega) (by omega))).trans ?_
      refine (if_neg (fun hb => ?_)).trans ?_
      · have := (q_bit1 p (show k < 32 by omega)).mp hb
        rw [hz k (by omega)] at this
        cases this
      · rw [nI_1]
        exact ih (k + 1) q (by omega) (by omega)
/-- a member of the set, by its number -/
def WV (p : Int32) (M : Nat) (w : Int32) : Prop := ∃ j : Nat, j < M ∧ w = nI j ∧ bt p j = true
theorem worst_keep {st : Nat → Int32} {q : Rd} {p : Int32} {M : Nat} (hM : M ≤ 10) (hs : st 20 = nI M) : ∀ (c k : Nat) (w : Int32), k + c = 10 → k ≤ M → WV p M w → WV p M (L_X3_worstOf_5 st q p (c + 1) w (nI k)) := by
  intro c
  induction c with
  | zero =>
    intro k w h hk hw
    have e : L_X3_worstOf_5 st q p (0 + 1) w (nI k) = w := if_pos (by rw [hs]; exact nI_le (by omega) (by omega))
    rw [e]
    exact hw
  | succ c ih =>
    intro k w h hk hw
    by_cases hk2 : k = M
    · have e : L_X3_worstOf_5 st q p (c + 1 + 1) w (nI k) = w := if_pos (by rw [hs, hk2]; exact nI_le (Nat.le_refl _) (by omega))
      rw [e]
      exact hw
    · have hn : ¬ st 20 ≤ nI k := by rw [hs]; exact nI_ge (by omega) (by omega)
      have key : ∀ w', WV p M w' → WV p M (L_X3_worstOf_5 st q p (c + 1) w' (nI k + 1)) := by
        intro w' hw'
        rw [nI_1]
        exact ih (k + 1) w' (by omega) (by omega) hw'
      by_cases hb : (p >>> (nI k &&& 31)) &&& 1 = 1
      · have hbt := (q_bit1 p (show k < 32 by omega)).mp hb
        have hv : WV p M (nI k) := ⟨k, by omega, rfl, hbt⟩
        have e1 : L_X3_worstOf_5 st q p (c + 1 + 1) w (nI k) = (if w < 0 then (L_X3_worstOf_5 st q p (c + 1) (nI k) (nI k + 1)) else (if (lg_cmp (F_X3_plain (F_X3_offOf st q (nI k))) (F_X3_plain (F_X3_offOf st q w))) ≤ 0 then (L_X3_worstOf_5 st q p (c + 1) w (nI k + 1)) else (L_X3_worstOf_5 st q p (c + 1) (nI k) (nI k + 1)))) := (if_neg hn).trans (if_pos hb)
        rw [e1]
        by_cases h0 : w < 0
        · rw [if_pos h0]; exact key _ hv
        · rw [if_neg h0]
          by_cases h1 : (lg_cmp (F_X3_plain (F_X3_offOf st q (nI k))) (F_X3_plain (F_X3_offOf st q w))) ≤ 0
          · rw [if_pos h1]; exact key _ hw
          · rw [if_neg h1]; exact key _ hv
      · have e1 : L_X3_worstOf_5 st q p (c + 1 + 1) w (nI k) = L_X3_worstOf_5 st q p (c + 1) w (nI k + 1) := (if_neg hn).trans (if_neg hb)
        rw [e1]
        exact key _ hw
theorem worst_L {st : Nat → Int32} {q : Rd} {p : Int32} {M : Nat} (hM : M ≤ 10) (hs : st 20 = nI M) : ∀ (c k : Nat), k + c = 10 → k ≤ M → (L_X3_worstOf_5 st q p (c + 1) (-6) (nI k) = -6 ∧ ∀ j, k ≤ j → j < M → bt p j = false) ∨ WV p M (L_X3_worstOf_5 st q p (c + 1) (-6) (nI k)) := by
  intro c
  induction c with
  | zero =>
    intro k h hk
    have e : L_X3_worstOf_5 st q p (0 + 1) (-6) (nI k) = -6 := if_pos (by rw [hs]; exact nI_le (by omega) (by omega))
    exact Or.inl ⟨e, fun j h1 h2 => by omega⟩
  | succ c ih =>
    intro k h hk
    by_cases hk2 : k = M
    · have e : L_X3_worstOf_5 st q p (c + 1 + 1) (-6) (nI k) = -6 := if_pos (by rw [hs, hk2]; exact nI_le (Nat.le_refl _) (by omega))
      exact Or.inl ⟨e, fun j h1 h2 => by omega⟩
    · have hn : ¬ st 20 ≤ nI k := by rw [hs]; exact nI_ge (by omega) (by omega)
      by_cases hb : (p >>> (nI k &&& 31)) &&& 1 = 1
      · have hbt := (q_bit1 p (show k < 32 by omega)).mp hb
        have hv : WV p M (nI k) := ⟨k, by omega, rfl, hbt⟩
        have e1 : L_X3_worstOf_5 st q p (c + 1 + 1) (-6) (nI k) = L_X3_worstOf_5 st q p (c + 1) (nI k) (nI k + 1) := (if_neg hn).trans ((if_pos hb).trans (if_pos (by decide)))
        rw [e1, nI_1]
        exact Or.inr (worst_keep hM hs c (k + 1) _ (by omega) (by omega) hv)
      · have e1 : L_X3_worstOf_5 st q p (c + 1 + 1) (-6) (nI k) = L_X3_worstOf_5 st q p (c + 1) (-6) (nI k + 1) := (if_neg hn).trans (if_neg hb)
        rw [e1, nI_1]
        rcases ih (k + 1) (by omega) (by omega) with h1 | h1
        · refine Or.inl ⟨h1.1, fun j hj1 hj2 => ?_⟩
          by_cases hj : j = k
          · subst hj
            cases hbt : bt p j
            · rfl
            · exact absurd ((q_bit1 p (show j < 32 by omega)).mpr hbt) hb
          · exact h1.2 j (by omega) hj2
        · exact Or.inr h1
theorem worst_V {st : Nat → Int32} (q : Rd) (p : Int32) {M : Nat} (hM : M ≤ 10) (hs : st 20 = nI M) : (F_X3_worstOf st q p = -6 ∧ ∀ j, j < M → bt p j = false) ∨ WV p M (F_X3_worstOf st q p) := by
  rcases worst_L (q := q) (p := p) hM hs 10 0 rfl (Nat.zero_le _) with h | h
  · exact Or.inl ⟨h.1, fun j hj => h.2 j (Nat.zero_le _) hj⟩
  · exact Or.inr h
theorem det_zero : F_X3_det 0 0 0 0 0 0 0 0 0 = 0 := by decide
theorem lay_none {st : Nat → Int32} {md : Rd} {p : Int32} {M : Nat} (hM : M ≤ 10) (hs : st 20 = nI M) (hz : ∀ j, j < M → bt p j = false) : (F_X3_lay st md p).1 = 0 := by
  have e : F_X3_sumSet st md p = (0, 0, 0, 0, 0, 0, 0, 0, 0, md.2.2.2.2.2.2.2.2.2.1, md.2.2.2.2.2.2.2.2.2.2.1, md.2.2.2.2.2.2.2.2.2.2.2.1, md.2.2.2.2.2.2.2.2.2.2.2.2) := sum_none hM hs hz 10 0 _ rfl (Nat.zero_le _)
  unfold F_X3_lay
  rw [if_pos]
  rw [e]
  show lg_cmp (F_X3_det 0 0 0 0 0 0 0 0 0) 0 = 0
  rw [det_zero]
  decide
theorem lay_w {st : Nat → Int32} {md q : Rd} {p0 : Int32} (hm : MB st) (h : ¬ (F_X3_lay st md p0).1 = 0) : ∃ k : Nat, k < 10 ∧ (F_X3_worstOf st q p0).toInt = (k : Int) := by
  obtain ⟨M, hM, hs⟩ := MB_n hm
  rcases worst_V q p0 hM hs with h1 | ⟨j, h1, h2, -⟩
  · exact absurd (lay_none hM hs h1.2) h
  · exact ⟨j, by omega, by rw [h2, nI_toInt (by omega)]⟩
theorem lay_wx {st : Nat → Int32} {md q : Rd} {p0 : Int32} (hm : MB st) (h : ¬ (F_X3_lay st md p0).1 = 0) : vp_in (0 + F_X3_worstOf st q p0) 23 := by
  obtain ⟨k, h1, h2⟩ := lay_w (q := q) hm h
  exact vp_x h2 h1
theorem lay_wy {st : Nat → Int32} {md q : Rd} {p0 : Int32} (hm : MB st) (h : ¬ (F_X3_lay st md p0).1 = 0) : vp_in (10 + F_X3_worstOf st q p0) 23 := by
  obtain ⟨k, h1, h2⟩ := lay_w (q := q) hm h
  exact vp_y h2 h1
theorem layT_wx {st : Nat → Int32} {md q : Rd} (hm : MB st) (h : ¬ (F_X3_layTaken st md).1 = 0) : vp_in (0 + F_X3_worstOf st q (st 21)) 23 := lay_wx (md := md) hm (by rw [layT_eq] at h; exact h)
theorem layT_wy {st : Nat → Int32} {md q : Rd} (hm : MB st) (h : ¬ (F_X3_layTaken st md).1 = 0) : vp_in (10 + F_X3_worstOf st q (st 21)) 23 := lay_wy (md := md) hm (by rw [layT_eq] at h; exact h)
/-- what worstOf finds is a member of the set -/
theorem worst_in {z : Nat → Int32} {q : Rd} {set : Int32} (hm : MB z) : F_X3_worstOf z q set = -6 ∨ ∃ k : Nat, k < 10 ∧ (F_X3_worstOf z q set).toInt = (k : Int) ∧ (set >>> (F_X3_worstOf z q set &&& 31)) &&& 1 = 1 := by
  obtain ⟨M, hM, hs⟩ := MB_n hm
  rcases worst_V q set hM hs with h1 | ⟨j, h1, h2, h3⟩
  · exact Or.inl h1.1
  · refine Or.inr ⟨j, by omega, by rw [h2, nI_toInt (by omega)], ?_⟩
    rw [h2]
    exact (q_bit1 set (by omega)).mpr h3
theorem trim_k {z : Nat → Int32} {q : Rd} {i : Int32} (hm : MB z) (hv : i = F_X3_worstOf z q (z 21) ∨ i = -6) (c : ¬ i < 0) : ∃ k : Nat, k < 10 ∧ i.toInt = (k : Int) ∧ (z 21 >>> (i &&& 31)) &&& 1 = 1 := by
  rcases hv with h | h
  · rw [h]
    rcases worst_in (q := q) (set := z 21) hm with h1 | h1
    · rw [h, h1] at c; exact absurd (by decide) c
    · exact h1
  · rw [h] at c; exact absurd (by decide) c
theorem trim_vx {z : Nat → Int32} {q : Rd} {i : Int32} (hm : MB z) (hv : i = F_X3_worstOf z q (z 21) ∨ i = -6) (c : ¬ i < 0) : vp_in (0 + i) 23 := by
  obtain ⟨k, h1, h2, -⟩ := trim_k hm hv c
  exact vp_x h2 h1
theorem trim_vy {z : Nat → Int32} {q : Rd} {i : Int32} (hm : MB z) (hv : i = F_X3_worstOf z q (z 21) ∨ i = -6) (c : ¬ i < 0) : vp_in (10 + i) 23 := by
  obtain ⟨k, h1, h2, -⟩ := trim_k hm hv c
  exact vp_y h2 h1
theorem trim_dec {z : Nat → Int32} {q : Rd} {i : Int32} {n : Nat} (hm : MB z) (hv : i = F_X3_worstOf z q (z 21) ∨ i = -6) (c : ¬ i < 0) (hfu : (F_X3_size (z 21)).toInt < ((n + 1 : Nat) : Int)) : (F_X3_size ((upd z 21 (z 21 &&& ((1 : Int32) <<< (i &&& 31) ^^^ -1))) 21)).toInt < (n : Int) := by
  obtain ⟨k, h1, h2, h3⟩ := trim_k hm hv c
  have e : (upd z 21 (z 21 &&& ((1 : Int32) <<< (i &&& 31) ^^^ -1))) 21 = z 21 &&& ((1 : Int32) <<< (i &&& 31) ^^^ -1) := by simp [upd]
  rw [e]
  have := size_clear h1 h2 h3
  omega
