/-! a set within a limit, on both sides; sets of fewer than three -/
def WW (now : Sm) (S p : Int32) : Prop := ¬ zBY (aS now S) = 0 ∧ ∀ k, k < 10 → bt S k = true → (zs now (aS now S) k : Int) ≤ p.toInt * zBY (aS now S)
theorem within_cL {now : Sm} {st : Nat → Int32} (h : SR now st 0) {S p : Int32} (hS : ∀ j : Nat, now.2.2.1.toInt ≤ (j : Int) → j < 32 → bt S j = false) (hp : 0 ≤ p.toInt ∧ p.toInt ≤ 9999) {r : Rd} (hr : CL r (aS now S)) (hn : 0 < (aS now S).1) : ∀ (c k : Nat), k + c = 10 → ((L_X2_isWithin_30 now S p (c + 1) (nI k) r).1 = 0 ↔ ¬ ∀ j, k ≤ j → j < 10 → bt S j = true → (zs now (aS now S) j : Int) ≤ p.toInt * zBY (aS now S)) := by
  have hg := gd_aS h S
  intro c
  induction c with
  | zero =>
    intro k hc
    have hk : k = 10 := by omega
    subst hk
    have e : L_X2_isWithin_30 now S p (0 + 1) (nI 10) r = (1, r) := if_pos (by decide)
    rw [e]
    exact ⟨fun h => absurd (show (1 : Int32) = 0 from h) (by decide), fun h => absurd (fun j h1 h2 => by omega) h⟩
  | succ c ih =>
    intro k hc
    have hn10 : ¬ (10 : Int32) ≤ nI k := nI_ge (a := k) (b := 10) (by omega) (by decide)
    have step : (∀ j, k ≤ j → j < 10 → bt S j = true → (zs now (aS now S) j : Int) ≤ p.toInt * zBY (aS now S)) ↔ ((bt S k = true → (zs now (aS now S) k : Int) ≤ p.toInt * zBY (aS now S)) ∧ ∀ j, k + 1 ≤ j → j < 10 → bt S j = true → (zs now (aS now S) j : Int) ≤ p.toInt * zBY (aS now S)) := by
      constructor
      · intro hh
        exact ⟨fun hb => hh k (by omega) (by omega) hb, fun j h1 h2 => hh j (by omega) h2⟩
      · intro hh j h1 h2 hb
        by_cases hj : j = k
        · subst hj; exact hh.1 hb
        · exact hh.2 j (by omega) h2 hb
    rw [step]
    cases hb : bt S k
    · have e : L_X2_isWithin_30 now S p (c + 1 + 1) (nI k) r = L_X2_isWithin_30 now S p (c + 1) (nI k + 1) r := (if_neg hn10).trans (if_pos (isIn0 _ (by omega) hb))
      rw [e, nI_1, ih (k + 1) (by omega)]
      exact ⟨fun hh hx => hh hx.2, fun hh hx => hh ⟨fun hf => absurd hf (by decide), hx⟩⟩
    · have hkM : (k : Int) < now.2.2.1.toInt := by
        rcases Int.lt_or_le (k : Int) now.2.2.1.toInt with q | q
        · exact q
        · rw [hS k q (by omega)] at hb; cases hb
      have lc := lim_c h hg hr hn (show k < 10 by omega) hkM hp
      by_cases hl : (zs now (aS now S) k : Int) ≤ p.toInt * zBY (aS now S)
      · have e : L_X2_isWithin_30 now S p (c + 1 + 1) (nI k) r = L_X2_isWithin_30 now S p (c + 1) (nI k + 1) r := (if_neg hn10).trans ((if_neg (isIn1 _ (by omega) hb)).trans (if_pos (lc.mpr hl)))
        rw [e, nI_1, ih (k + 1) (by omega)]
        exact ⟨fun hh hx => hh hx.2, fun hh hx => hh ⟨fun _ => hl, hx⟩⟩
      · have e : L_X2_isWithin_30 now S p (c + 1 + 1) (nI k) r = (0, r) := (if_neg hn10).trans ((if_neg (isIn1 _ (by omega) hb)).trans (if_neg (fun q => hl (lc.mp q))))
        rw [e]
        exact ⟨fun _ hx => hl (hx.1 rfl), fun _ => rfl⟩
theorem within_c {now : Sm} {st : Nat → Int32} (h : SR now st 0) {S p : Int32} (hS : ∀ j : Nat, now.2.2.1.toInt ≤ (j : Int) → j < 32 → bt S j = false) (hp : 0 ≤ p.toInt ∧ p.toInt ≤ 9999) (t : Rd) : (F_X2_isWithin now t S p).1 = 0 ↔ ¬ WW now S p := by
  have hg := gd_aS h S
  have hr := cl_of h t S
  unfold F_X2_isWithin
  generalize F_X0_lay (F_X2_sumUp now t S) = R at hr ⊢
  have hf := flat_iff hg hr
  by_cases hz : zBY (aS now S) = 0
  · rw [if_neg (fun q => (hf.mp q) hz)]
    exact ⟨fun _ hx => hx.1 hz, fun _ => rfl⟩
  · rw [if_pos (hf.mpr hz)]
    have key := within_cL h hS hp hr ((by_nn hg).2 hz) 10 0 rfl
    have key : (L_X2_isWithin_30 now S p 11 0 R).1 = 0 ↔ _ := key
    rw [key]
    exact ⟨fun hh hx => hh (fun j _ h2 hb => hx.2 j h2 hb), fun hh hx => hh ⟨hz, fun j hj hb => hx j (Nat.zero_le _) hj hb⟩⟩
theorem max_L {now : Sm} {st : Nat → Int32} (h : SR now st 0) {q : Rd} {a : Z9} (hg : GD 11 a) (hq : ML q a) {S : Int32} {M : Nat} (hM : M ≤ 10) (hs : st 20 = nI M) : ∀ (c k j : Nat), k + c = 10 → k ≤ M → j < M → bt S j = true → (∀ i, i < k → bt S i = true → zs now a i ≤ zs now a j) → ∃ j', j' < M ∧ bt S j' = true ∧ L_X3_worstOf_5 st q S (c + 1) (nI j) (nI k) = nI j' ∧ ∀ i, i < M → bt S i = true → zs now a i ≤ zs now a j' := by
  intro c
  induction c with
  | zero =>
    intro k j hc hk hj hb hmx
    have e : L_X3_worstOf_5 st q S (0 + 1) (nI j) (nI k) = nI j := if_pos (by rw [hs]; exact nI_le (by omega) (by omega))
    exact ⟨j, hj, hb, e, fun i hi => hmx i (by omega)⟩
  | succ c ih =>
    intro k j hc hk hj hb hmx
    by_cases hk2 : k = M
    · have e : L_X3_worstOf_5 st q S (c + 1 + 1) (nI j) (nI k) = nI j := if_pos (by rw [hs, hk2]; exact nI_le (Nat.le_refl _) (by omega))
      exact ⟨j, hj, hb, e, fun i hi => hmx i (by omega)⟩
    · have hn' : ¬ st 20 ≤ nI k := by rw [hs]; exact nI_ge (by omega) (by omega)
      cases hbk : bt S k
      · have e2 : L_X3_worstOf_5 st q S (c + 1 + 1) (nI j) (nI k) = L_X3_worstOf_5 st q S (c + 1) (nI j) (nI k + 1) := (if_neg hn').trans (if_neg (fun h => by have := (q_bit1 S (show k < 32 by omega)).mp h; rw [hbk] at this; cases this))
        rw [e2, nI_1]
        refine ih (k + 1) j (by omega) (by omega) hj hb (fun i hi hbi => ?_)
        by_cases hik : i = k
        · subst hik; rw [hbk] at hbi; cases hbi
        · exact hmx i (by omega) hbi
      · have nw : ¬ nI j < 0 := nI_pos (n := j) (by omega)
        have mk := ms_eq h hg hq (k := k) (by omega)
        have mj := ms_eq h hg hq (k := j) (by omega)
        have x2 : (lg_cmp (F_X3_plain (F_X3_offOf st q (nI k))) (F_X3_plain (F_X3_offOf st q (nI j))) ≤ 0) ↔ zs now a k ≤ zs now a j := by
          rw [mk, mj, lle (by have := zs_le h hg (k := k) (by omega); omega) (by have := zs_le h hg (k := j) (by omega); omega)]
        by_cases cc : zs now a k ≤ zs now a j
        · have e2 : L_X3_worstOf_5 st q S (c + 1 + 1) (nI j) (nI k) = L_X3_worstOf_5 st q S (c + 1) (nI j) (nI k + 1) := (if_neg hn').trans ((if_pos ((q_bit1 S (show k < 32 by omega)).mpr hbk)).trans ((if_neg nw).trans (if_pos (x2.mpr cc))))
          rw [e2, nI_1]
          refine ih (k + 1) j (by omega) (by omega) hj hb (fun i hi hbi => ?_)
          by_cases hik : i = k
          · subst hik; exact cc
          · exact hmx i (by omega) hbi
        · have e2 : L_X3_worstOf_5 st q S (c + 1 + 1) (nI j) (nI k) = L_X3_worstOf_5 st q S (c + 1) (nI k) (nI k + 1) := (if_neg hn').trans ((if_pos ((q_bit1 S (show k < 32 by omega)).mpr hbk)).trans ((if_neg nw).trans (if_neg (fun q => cc (x2.mp q)))))
          rw [e2, nI_1]
          refine ih (k + 1) k (by omega) (by omega) (by omega) hbk (fun i hi hbi => ?_)
          by_cases hik : i = k
          · subst hik; exact Nat.le_refl _
          · have := hmx i (by omega) hbi
            omega
theorem max_0 {now : Sm} {st : Nat → Int32} (h : SR now st 0) {q : Rd} {a : Z9} (hg : GD 11 a) (hq : ML q a) {S : Int32} {M : Nat} (hM : M ≤ 10) (hs : st 20 = nI M) : ∀ (c k : Nat), k + c = 10 → k ≤ M → (∀ i, i < k → bt S i = false) → (∃ j, k ≤ j ∧ j < M ∧ bt S j = true) → ∃ j', j' < M ∧ bt S j' = true ∧ L_X3_worstOf_5 st q S (c + 1) (-6) (nI k) = nI j' ∧ ∀ i, i < M → bt S i = true → zs now a i ≤ zs now a j' := by
  intro c
  induction c with
  | zero =>
    intro k hc hk hno hex
    obtain ⟨j, h1, h2, -⟩ := hex
    omega
  | succ c ih =>
    intro k hc hk hno hex
    obtain ⟨j, h1, h2, h3⟩ := hex
    have hn' : ¬ st 20 ≤ nI k := by rw [hs]; exact nI_ge (by omega) (by omega)
    cases hbk : bt S k
    · have e2 : L_X3_worstOf_5 st q S (c + 1 + 1) (-6) (nI k) = L_X3_worstOf_5 st q S (c + 1) (-6) (nI k + 1) := (if_neg hn').trans (if_neg (fun h => by have := (q_bit1 S (show k < 32 by omega)).mp h; rw [hbk] at this; cases this))
      rw [e2, nI_1]
      have hjk : ¬ j = k := fun e => by rw [e, hbk] at h3; cases h3
      refine ih (k + 1) (by omega) (by omega) (fun i hi => ?_) ⟨j, by omega, h2, h3⟩
      by_cases hik : i = k
      · rw [hik]; exact hbk
      · exact hno i (by omega)
    · have e2 : L_X3_worstOf_5 st q S (c + 1 + 1) (-6) (nI k) = L_X3_worstOf_5 st q S (c + 1) (nI k) (nI k + 1) := (if_neg hn').trans ((if_pos ((q_bit1 S (show k < 32 by omega)).mpr hbk)).trans (if_pos (by decide)))
      rw [e2, nI_1]
      refine max_L h hg hq hM hs c (k + 1) k (by omega) (by omega) (by omega) hbk (fun i hi hbi => ?_)
      by_cases hik : i = k
      · subst hik; exact Nat.le_refl _
      · rw [hno i (by omega)] at hbi; cases hbi
theorem within_m {now : Sm} {st : Nat → Int32} (h : SR now st 0) {S p : Int32} (hS : ∀ j : Nat, now.2.2.1.toInt ≤ (j : Int) → j < 32 → bt S j = false) (hp : 0 ≤ p.toInt ∧ p.toInt ≤ 9999) (md : Rd) : (F_X3_isWithin st md S p).1 = 0 ↔ ¬ WW now S p := by
  have hg := gd_aS h S
  have hq := ml_of h md hS
  have h1 := lay_fst h md hS
  obtain ⟨M, hM, e1, e2, -⟩ := SR_M h
  have hmi : now.2.2.1.toInt = (M : Int) := by rw [e1, nI_toInt (by omega)]
  unfold F_X3_isWithin
  generalize F_X3_lay st md S = Q at hq h1 ⊢
  by_cases hz : zBY (aS now S) = 0
  · rw [if_pos (h1.mpr hz)]
    exact ⟨fun _ hx => hx.1 hz, fun _ => rfl⟩
  · rw [if_neg (fun q => hz (h1.mp q))]
    obtain ⟨j, hj, hbj⟩ := by_mem hz
    have hjM : j < M := by
      rcases Nat.lt_or_ge j M with q | q
      · exact q
      · rw [hS j (by omega) (by omega)] at hbj; cases hbj
    obtain ⟨j', hj', hbj', ew, hmx⟩ := max_0 h hg hq hM e2 (S := S) 10 0 rfl (Nat.zero_le _) (fun i hi => by omega) ⟨j, Nat.zero_le _, hjM, hbj⟩
    have ew : F_X3_worstOf st Q.2 S = nI j' := ew
    rw [ew]
    have lm := lim_m h hg hq (show j' < 10 by omega) hp
    by_cases hl : (zs now (aS now S) j' : Int) ≤ p.toInt * zBY (aS now S)
    · rw [if_neg (Int32.not_lt.mpr (lm.mpr hl))]
      refine ⟨fun hh => absurd (show (1 : Int32) = 0 from hh) (by decide), fun hh => absurd ⟨hz, fun k hk hb => ?_⟩ hh⟩
      have hkM : k < M := by
        rcases Nat.lt_or_ge k M with q | q
        · exact q
        · rw [hS k (by omega) (by omega)] at hb; cases hb
      have := hmx k hkM hb
      omega
    · rw [if_pos (Int32.not_le.mp (fun q => hl (lm.mp q)))]
      exact ⟨fun _ hx => hl (hx.2 j' (by omega) hbj'), fun _ => rfl⟩
/-- sets of fewer than three -/
theorem few_IZ {xs ys : Nat → Int32} {s : Int32} : ∀ n, (fb_ct (bt s) n = 0 → IZ xs ys s n = (0, 0, 0, 0, 0, 0, 0, 0, 0)) ∧ (fb_ct (bt s) n = 1 → ∃ x y : Int, IZ xs ys s n = incZ (0, 0, 0, 0, 0, 0, 0, 0, 0) x y) ∧ (fb_ct (bt s) n = 2 → ∃ x y x' y' : Int, IZ xs ys s n = incZ (incZ (0, 0, 0, 0, 0, 0, 0, 0, 0) x y) x' y') := by
  intro n
  induction n with
  | zero => exact ⟨fun _ => rfl, fun h => absurd (show 0 = 1 from h) (by decide), fun h => absurd (show 0 = 2 from h) (by decide)⟩
  | succ n ih =>
    obtain ⟨i0, i1, i2⟩ := ih
    have e : IZ xs ys s (n + 1) = if bt s n = true then incZ (IZ xs ys s n) (xs n).toInt (ys n).toInt else IZ xs ys s n := rfl
    rw [e, fb_ct_succ]
    cases hb : bt s n
    · rw [if_neg (by decide)]
      rw [if_neg (by decide)]
      exact ⟨i0, i1, i2⟩
    · rw [if_pos rfl, if_pos rfl]
      refine ⟨fun h => by omega, fun h => ⟨(xs n).toInt, (ys n).toInt, by rw [i0 (by omega)]⟩, fun h => ?_⟩
      obtain ⟨x, y, hxy⟩ := i1 (by omega)
      exact ⟨x, y, (xs n).toInt, (ys n).toInt, by rw [hxy]⟩
theorem few_flat {now : Sm} {s : Int32} (h : fb_ct (bt s) 10 ≤ 2) : zBY (aS now s) = 0 := by
  obtain ⟨i0, i1, i2⟩ := few_IZ (xs := now.1) (ys := now.2.1) (s := s) 10
  unfold aS
  rcases (show fb_ct (bt s) 10 = 0 ∨ fb_ct (bt s) 10 = 1 ∨ fb_ct (bt s) 10 = 2 by omega) with h | h | h
  · rw [i0 h]; decide
  · obtain ⟨x, y, e⟩ := i1 h
    rw [e]
    unfold incZ zBY zDet
    dsimp only
    grind
  · obtain ⟨x, y, x', y', e⟩ := i2 h
    rw [e]
    unfold incZ zBY zDet
    dsimp only
    grind
