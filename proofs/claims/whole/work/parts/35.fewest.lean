/-! FEWEST -/
def szN (m : Nat) : Nat := fb_ct (bt (nI m)) 10
def Pm (now : Sm) (p : Int32) (m : Nat) : Prop := (nI m &&& (now.2.2.2.1 ^^^ (-1))) = 0 ∧ WW now (now.2.2.2.1 &&& (nI m ^^^ (-1))) p
theorem b_diff (T : Int32) (m : Nat) {j : Nat} (hj : j < 32) : bt (T &&& (nI m ^^^ (-1))) j = (bt T j && !bt (nI m) j) := by
  rw [b_and, b_xor, b_m1 j hj]
  cases bt T j <;> cases bt (nI m) j <;> rfl
theorem sub_bits {T : Int32} {m : Nat} (h : (nI m &&& (T ^^^ (-1))) = 0) {j : Nat} (hj : j < 32) (hb : bt (nI m) j = true) : bt T j = true := by
  have e : bt (nI m &&& (T ^^^ (-1))) j = false := by rw [h, b_0]
  rw [b_and, b_xor, b_m1 j hj, hb] at e
  cases ht : bt T j
  · rw [ht] at e; exact absurd e (by decide)
  · rfl
theorem diff_hi {now : Sm} {st : Nat → Int32} (h : SR now st 0) (m : Nat) : ∀ j : Nat, now.2.2.1.toInt ≤ (j : Int) → j < 32 → bt (now.2.2.2.1 &&& (nI m ^^^ (-1))) j = false := by
  intro j h1 h2
  rw [b_diff _ _ h2, h.2.2.2.2.2.1 j h1 h2]
  rfl
theorem bc_N {m : Nat} (h : m < 1024) : F_J6_bitCount_0f7a4 (nI m) = nI (szN m) := by
  rw [bc_size m h, size_eq]
  rfl
theorem szN_le (m : Nat) : szN m ≤ 10 := fb_ct_le _ _
theorem P_sz {now : Sm} {p : Int32} {m : Nat} (h : Pm now p m) : szN m + 3 ≤ fb_ct (bt now.2.2.2.1) 10 := by
  obtain ⟨h1, h2, -⟩ := h
  have e1 : fb_ct (bt now.2.2.2.1) 10 = fb_ct (fun k => bt (nI m) k || bt (now.2.2.2.1 &&& (nI m ^^^ (-1))) k) 10 := by
    refine fb_ct_cong (fun k hk => ?_)
    show _ = (bt (nI m) k || bt (now.2.2.2.1 &&& (nI m ^^^ (-1))) k)
    rw [b_diff _ _ (show k < 32 by omega)]
    cases hm : bt (nI m) k
    · cases bt now.2.2.2.1 k <;> rfl
    · rw [sub_bits h1 (by omega) hm]; rfl
  have e2 := fb_ct_or (p := bt (nI m)) (q := bt (now.2.2.2.1 &&& (nI m ^^^ (-1)))) (n := 10) (fun k hk hx => by
    obtain ⟨x1, x2⟩ := hx
    rw [b_diff _ _ (show k < 32 by omega), x1] at x2
    cases hT : bt now.2.2.2.1 k <;> rw [hT] at x2 <;> cases x2)
  have e3 : 3 ≤ fb_ct (bt (now.2.2.2.1 &&& (nI m ^^^ (-1)))) 10 := by
    rcases Nat.lt_or_ge (fb_ct (bt (now.2.2.2.1 &&& (nI m ^^^ (-1)))) 10) 3 with q | q
    · exact absurd (few_flat (now := now) (by omega)) h2
    · exact q
  unfold szN
  omega
theorem P_lt {now : Sm} {st : Nat → Int32} (h : SR now st 0) {M : Nat} (hm : now.2.2.1 = nI M) (hM : M ≤ 10) {p : Int32} {m : Nat} (hlt : m < 1024) (hp : Pm now p m) : m < 2 ^ M := by
  have hmi : now.2.2.1.toInt = (M : Int) := by rw [hm, nI_toInt (by omega)]
  have := bits_lt (x := nI m) (M := M) (fun j h1 h2 => by
    cases hb : bt (nI m) j
    · rfl
    · have := sub_bits hp.1 h2 hb
      rw [h.2.2.2.2.2.1 j (by omega) h2] at this
      cases this)
  rw [pk_tn (by omega)] at this
  exact this
/-- what FEWEST tells -/
def RES (now : Sm) (p p1 x : Int32) : Prop := (x = -6 ∧ ∀ m, m < 1024 → ¬ Pm now p m) ∨ ∃ m, m < 1024 ∧ Pm now p m ∧ (∀ m', m' < 1024 → Pm now p m' → szN m < szN m' ∨ (szN m = szN m' ∧ m ≤ m')) ∧ x = if p1 = 0 then nI (szN m) else nI m
theorem RES_one {now : Sm} {p p1 x y : Int32} (hx : RES now p p1 x) (hy : RES now p p1 y) : x = y := by
  rcases hx with ⟨x1, x2⟩ | ⟨m, m1, m2, m3, m4⟩
  · rcases hy with ⟨y1, -⟩ | ⟨m', n1, n2, -, -⟩
    · rw [x1, y1]
    · exact absurd n2 (x2 m' n1)
  · rcases hy with ⟨-, y2⟩ | ⟨m', n1, n2, n3, n4⟩
    · exact absurd m2 (y2 m m1)
    · have a1 := m3 m' n1 n2
      have a2 := n3 m m1 m2
      have e : m = m' := by omega
      rw [m4, n4, e]
theorem least_L {now : Sm} {st : Nat → Int32} (h : SR now st 0) {p : Int32} (hp : 0 ≤ p.toInt ∧ p.toInt ≤ 9999) {s : Nat} (hs : s < 100) : ∀ (c k : Nat) (q : Rd), k + c = 1024 → (∃ m, k ≤ m ∧ m < 1024 ∧ szN m = s ∧ Pm now p m ∧ (∀ m', k ≤ m' → m' < m → ¬ (szN m' = s ∧ Pm now p m')) ∧ (L_X2_leastSetToLeaveOut_2 now (nI s) p (c + 1) (nI k) q).1 = nI m) ∨ ((L_X2_leastSetToLeaveOut_2 now (nI s) p (c + 1) (nI k) q).1 = -6 ∧ ∀ m', k ≤ m' → m' < 1024 → ¬ (szN m' = s ∧ Pm now p m')) := by
  intro c
  induction c with
  | zero =>
    intro k q hc
    have hk : k = 1024 := by omega
    subst hk
    have e : L_X2_leastSetToLeaveOut_2 now (nI s) p (0 + 1) (nI 1024) q = (-6, q) := if_pos (by decide)
    rw [e]
    exact Or.inr ⟨rfl, fun m' h1 h2 => by omega⟩
  | succ c ih =>
    intro k q hc
    have hn : ¬ (1024 : Int32) ≤ nI k := nI_ge (a := k) (b := 1024) (by omega) (by decide)
    have hbc := bc_N (m := k) (by omega)
    have heq : (F_J6_bitCount_0f7a4 (nI k) = nI s) ↔ szN k = s := by
      rw [hbc]
      exact nI_eq (by have := szN_le k; omega) (by omega)
    have wi := within_c h (diff_hi h k) hp
    have skip : ∀ q' : Rd, ¬ (szN k = s ∧ Pm now p k) → L_X2_leastSetToLeaveOut_2 now (nI s) p (c + 1 + 1) (nI k) q = L_X2_leastSetToLeaveOut_2 now (nI s) p (c + 1) (nI k + 1) q' → (∃ m, k ≤ m ∧ m < 1024 ∧ szN m = s ∧ Pm now p m ∧ (∀ m', k ≤ m' → m' < m → ¬ (szN m' = s ∧ Pm now p m')) ∧ (L_X2_leastSetToLeaveOut_2 now (nI s) p (c + 1 + 1) (nI k) q).1 = nI m) ∨ ((L_X2_leastSetToLeaveOut_2 now (nI s) p (c + 1 + 1) (nI k) q).1 = -6 ∧ ∀ m', k ≤ m' → m' < 1024 → ¬ (szN m' = s ∧ Pm now p m')) := by
      intro q' hno e
      rw [e, nI_1]
      rcases ih (k + 1) q' (by omega) with ⟨m, m1, m2, m3, m4, m5, m6⟩ | ⟨m1, m2⟩
      · refine Or.inl ⟨m, by omega, m2, m3, m4, fun m' a1 a2 => ?_, m6⟩
        by_cases hmk : m' = k
        · rw [hmk]; exact hno
        · exact m5 m' (by omega) a2
      · refine Or.inr ⟨m1, fun m' a1 a2 => ?_⟩
        by_cases hmk : m' = k
        · rw [hmk]; exact hno
        · exact m2 m' (by omega) a2
    by_cases c1 : F_J6_bitCount_0f7a4 (nI k) = nI s
    · by_cases c2 : (nI k &&& (now.2.2.2.1 ^^^ (-1))) = 0
      · by_cases c3 : (F_X2_isWithin now q (now.2.2.2.1 &&& (nI k ^^^ (-1))) p).1 = 0
        · exact skip _ (fun hx => (wi q).mp c3 hx.2.2) ((if_neg hn).trans ((if_pos c1).trans ((if_pos c2).trans (if_pos c3))))
        · have e : L_X2_leastSetToLeaveOut_2 now (nI s) p (c + 1 + 1) (nI k) q = (nI k, (F_X2_isWithin now q (now.2.2.2.1 &&& (nI k ^^^ (-1))) p).2) := (if_neg hn).trans ((if_pos c1).trans ((if_pos c2).trans (if_neg c3)))
          refine Or.inl ⟨k, Nat.le_refl _, by omega, heq.mp c1, ⟨c2, ?_⟩, fun m' a1 a2 => by omega, by rw [e]⟩
          exact Classical.byContradiction (fun hw => c3 ((wi q).mpr hw))
      · exact skip q (fun hx => c2 hx.2.1) ((if_neg hn).trans ((if_pos c1).trans (if_neg c2)))
    · exact skip q (fun hx => c1 (heq.mpr hx.1)) ((if_neg hn).trans (if_neg c1))
theorem few_cL {now : Sm} {st : Nat → Int32} (h : SR now st 0) {p p1 b : Int32} (hp : 0 ≤ p.toInt ∧ p.toInt ≤ 9999) (hb : b.toInt = (fb_ct (bt now.2.2.2.1) 10 : Int) - 3) : ∀ (c s : Nat) (q : Rd), s + c = 61 → (∀ m, m < 1024 → szN m < s → ¬ Pm now p m) → RES now p p1 (L_X2_fewest_39 now p p1 (c + 1) b (nI s) q).1 := by
  have hct := fb_ct_le (bt now.2.2.2.1) 10
  have stop : ∀ s : Nat, s < 100 → b < nI s → (∀ m, m < 1024 → szN m < s → ¬ Pm now p m) → RES now p p1 (-6) := by
    intro s hs hlt hno
    refine Or.inl ⟨rfl, fun m h1 h2 => ?_⟩
    rw [Int32.lt_iff_toInt_lt, nI_toInt (by omega)] at hlt
    have h3 := P_sz h2
    exact hno m h1 (by omega) h2
  intro c
  induction c with
  | zero =>
    intro s q hc hno
    have hlt : b < nI s := by
      rw [Int32.lt_iff_toInt_lt, nI_toInt (by omega)]
      omega
    have e : L_X2_fewest_39 now p p1 (0 + 1) b (nI s) q = (-6, q) := if_pos hlt
    rw [e]
    exact stop s (by omega) hlt hno
  | succ c ih =>
    intro s q hc hno
    by_cases hlt : b < nI s
    · have e : L_X2_fewest_39 now p p1 (c + 1 + 1) b (nI s) q = (-6, q) := if_pos hlt
      rw [e]
      exact stop s (by omega) hlt hno
    · rcases least_L h hp (s := s) (by omega) 1024 0 q rfl with ⟨m, -, m2, m3, m4, m5, m6⟩ | ⟨m1, m2⟩
      · have m6 : (F_X2_leastSetToLeaveOut now q (nI s) p).1 = nI m := m6
        have hne : ¬ (F_X2_leastSetToLeaveOut now q (nI s) p).1 = (-6) := by
          rw [m6]
          intro e
          have := congrArg Int32.toInt e
          rw [nI_toInt (by omega)] at this
          have e6 : (-6 : Int32).toInt = -6 := by decide
          omega
        have hbest : ∀ m', m' < 1024 → Pm now p m' → szN m < szN m' ∨ (szN m = szN m' ∧ m ≤ m') := by
          intro m' a1 a2
          rcases Nat.lt_or_ge (szN m') s with q1 | q1
          · exact absurd a2 (hno m' a1 q1)
          · by_cases q2 : szN m' = s
            · refine Or.inr ⟨by omega, ?_⟩
              rcases Nat.lt_or_ge m' m with q3 | q3
              · exact absurd ⟨q2, a2⟩ (m5 m' (Nat.zero_le _) q3)
              · exact q3
            · exact Or.inl (by omega)
        by_cases hp1 : p1 = 0
        · have e : L_X2_fewest_39 now p p1 (c + 1 + 1) b (nI s) q = (nI s, (F_X2_leastSetToLeaveOut now q (nI s) p).2) := (if_neg hlt).trans ((if_neg hne).trans (if_pos hp1))
          rw [e]
          exact Or.inr ⟨m, m2, m4, hbest, by rw [if_pos hp1, m3]⟩
        · have e : L_X2_fewest_39 now p p1 (c + 1 + 1) b (nI s) q = ((F_X2_leastSetToLeaveOut now q (nI s) p).1, (F_X2_leastSetToLeaveOut now q (nI s) p).2) := (if_neg hlt).trans ((if_neg hne).trans (if_neg hp1))
          rw [e]
          exact Or.inr ⟨m, m2, m4, hbest, by rw [if_neg hp1]; exact m6⟩
      · have m1 : (F_X2_leastSetToLeaveOut now q (nI s) p).1 = -6 := m1
        have e : L_X2_fewest_39 now p p1 (c + 1 + 1) b (nI s) q = L_X2_fewest_39 now p p1 (c + 1) b (nI s + 1) (F_X2_leastSetToLeaveOut now q (nI s) p).2 := (if_neg hlt).trans (if_pos m1)
        rw [e, nI_1]
        refine ih (s + 1) _ (by omega) (fun m a1 a2 a3 => ?_)
        rcases Nat.lt_or_ge (szN m) s with q1 | q1
        · exact hno m a1 q1 a3
        · exact m2 m (Nat.zero_le _) a1 ⟨by omega, a3⟩
theorem few_mL {now : Sm} {st : Nat → Int32} (h : SR now st 0) {p p1 : Int32} (hp : 0 ≤ p.toInt ∧ p.toInt ≤ 9999) (hp1 : p1 = 0 ∨ p1 = 1) {M : Nat} (hM : M ≤ 10) (hm : now.2.2.1 = nI M) (hs : st 20 = nI M) : ∀ (c k : Nat) (b : Int32) (q : Rd), k + c = 1024 → k ≤ 2 ^ M → ((b = -6 ∧ ∀ m, m < k → ¬ Pm now p m) ∨ ∃ m, m < k ∧ b = nI m ∧ Pm now p m ∧ ∀ m', m' < k → Pm now p m' → szN m < szN m' ∨ (szN m = szN m' ∧ m ≤ m')) → RES now p p1 (L_X3_fewest_31 st p p1 (c + 1) b (nI k) q).1 := by
  have h3 : now.2.2.2.1 = st 21 := h.2.2.1
  have hpw := pow_le10 hM
  have fin : ∀ (b : Int32) (q : Rd), ((b = -6 ∧ ∀ m, m < 2 ^ M → ¬ Pm now p m) ∨ ∃ m, m < 2 ^ M ∧ b = nI m ∧ Pm now p m ∧ ∀ m', m' < 2 ^ M → Pm now p m' → szN m < szN m' ∨ (szN m = szN m' ∧ m ≤ m')) → RES now p p1 (if b < 0 then ((b, q) : Int32 × Rd) else (if p1 = 1 then (b, q) else (F_X3_size b, q))).1 := by
    intro b q hb
    rcases hb with ⟨b1, b2⟩ | ⟨m, b1, b2, b3, b4⟩
    · rw [if_pos (by rw [b1]; decide)]
      exact Or.inl ⟨b1, fun m a1 a2 => b2 m (P_lt h hm hM a1 a2) a2⟩
    · rw [if_neg (by rw [b2]; exact nI_pos (n := m) (by omega))]
      refine Or.inr ⟨m, by omega, b3, fun m' a1 a2 => b4 m' (P_lt h hm hM a1 a2) a2, ?_⟩
      rcases hp1 with e | e
      · rw [e, if_neg (by decide), if_pos rfl, b2]
        exact size_eq _
      · rw [e, if_pos rfl, if_neg (by decide), b2]
  intro c
  induction c with
  | zero =>
    intro k b q hc hk hinv
    have hk2 : k = 2 ^ M := by omega
    have e : L_X3_fewest_31 st p p1 (0 + 1) b (nI k) q = (if b < 0 then (b, q) else (if p1 = 1 then (b, q) else (F_X3_size b, q))) := if_pos (by rw [hs, sh_pow M (by omega), hk2]; exact nI_le (Nat.le_refl _) (by omega))
    rw [e]
    rw [hk2] at hinv
    exact fin b q hinv
  | succ c ih =>
    intro k b q hc hk hinv
    by_cases hk2 : k = 2 ^ M
    · have e : L_X3_fewest_31 st p p1 (c + 1 + 1) b (nI k) q = (if b < 0 then (b, q) else (if p1 = 1 then (b, q) else (F_X3_size b, q))) := if_pos (by rw [hs, sh_pow M (by omega), hk2]; exact nI_le (Nat.le_refl _) (by omega))
      rw [e]
      rw [hk2] at hinv
      exact fin b q hinv
    · have hn : ¬ (1 : Int32) <<< (st 20 &&& 31) ≤ nI k := by rw [hs, sh_pow M (by omega)]; exact nI_ge (by omega) (by omega)
      have wi := within_m h (diff_hi h k) hp
      rw [h3] at wi
      -- the invariant if k isn't taken over
      have keepN : ¬ Pm now p k → ((b = -6 ∧ ∀ m, m < k + 1 → ¬ Pm now p m) ∨ ∃ m, m < k + 1 ∧ b = nI m ∧ Pm now p m ∧ ∀ m', m' < k + 1 → Pm now p m' → szN m < szN m' ∨ (szN m = szN m' ∧ m ≤ m')) := by
        intro hno
        rcases hinv with ⟨b1, b2⟩ | ⟨m, b1, b2, b3, b4⟩
        · refine Or.inl ⟨b1, fun m a1 a2 => ?_⟩
          by_cases e : m = k
          · exact hno (e ▸ a2)
          · exact b2 m (by omega) a2
        · refine Or.inr ⟨m, by omega, b2, b3, fun m' a1 a2 => ?_⟩
          by_cases e : m' = k
          · exact absurd (e ▸ a2) hno
          · exact b4 m' (by omega) a2
      by_cases c1 : (nI k &&& (st 21 ^^^ (-1))) = 0
      · have c1' : (nI k &&& (now.2.2.2.1 ^^^ (-1))) = 0 := by rw [h3]; exact c1
        by_cases c2 : b < 0
        · have hinv0 : ∀ m, m < k → ¬ Pm now p m := by
            rcases hinv with ⟨-, b2⟩ | ⟨m, b1, b2, -, -⟩
            · exact b2
            · rw [b2] at c2; exact absurd c2 (nI_pos (n := m) (by omega))
          by_cases c3 : (F_X3_isWithin st q (st 21 &&& (nI k ^^^ (-1))) p).1 = 0
          · have e : L_X3_fewest_31 st p p1 (c + 1 + 1) b (nI k) q = L_X3_fewest_31 st p p1 (c + 1) b (nI k + 1) (F_X3_isWithin st q (st 21 &&& (nI k ^^^ (-1))) p).2 := (if_neg hn).trans ((if_pos c1).trans ((if_pos c2).trans (if_pos c3)))
            rw [e, nI_1]
            exact ih (k + 1) b _ (by omega) (by omega) (keepN (fun hx => (wi q).mp c3 (h3 ▸ hx.2)))
          · have e : L_X3_fewest_31 st p p1 (c + 1 + 1) b (nI k) q = L_X3_fewest_31 st p p1 (c + 1) (nI k) (nI k + 1) (F_X3_isWithin st q (st 21 &&& (nI k ^^^ (-1))) p).2 := (if_neg hn).trans ((if_pos c1).trans ((if_pos c2).trans (if_neg c3)))
            rw [e, nI_1]
            have hPk : Pm now p k := ⟨c1', by rw [h3]; exact Classical.byContradiction (fun hw => c3 ((wi q).mpr hw))⟩
            refine ih (k + 1) (nI k) _ (by omega) (by omega) (Or.inr ⟨k, by omega, rfl, hPk, fun m' a1 a2 => ?_⟩)
            by_cases e : m' = k
            · rw [e]; exact Or.inr ⟨rfl, Nat.le_refl _⟩
            · exact absurd a2 (hinv0 m' (by omega))
        · obtain ⟨m, b1, b2, b3, b4⟩ : ∃ m, m < k ∧ b = nI m ∧ Pm now p m ∧ ∀ m', m' < k → Pm now p m' → szN m < szN m' ∨ (szN m = szN m' ∧ m ≤ m') := by
            rcases hinv with ⟨b1, -⟩ | hx
            · rw [b1] at c2; exact absurd (by decide) c2
            · exact hx
          have hle : (F_X3_size b ≤ F_X3_size (nI k)) ↔ szN m ≤ szN k := by
            rw [b2, size_eq, size_eq]
            exact nI_leI (by have := szN_le m; unfold szN at this; omega) (by have := szN_le k; unfold szN at this; omega)
          by_cases c4 : F_X3_size b ≤ F_X3_size (nI k)
          · have e : L_X3_fewest_31 st p p1 (c + 1 + 1) b (nI k) q = L_X3_fewest_31 st p p1 (c + 1) b (nI k + 1) q := (if_neg hn).trans ((if_pos c1).trans ((if_neg c2).trans (if_pos c4)))
            rw [e, nI_1]
            refine ih (k + 1) b _ (by omega) (by omega) (Or.inr ⟨m, by omega, b2, b3, fun m' a1 a2 => ?_⟩)
            by_cases e : m' = k
            · have := hle.mp c4
              rw [e]
              omega
            · exact b4 m' (by omega) a2
          · by_cases c3 : (F_X3_isWithin st q (st 21 &&& (nI k ^^^ (-1))) p).1 = 0
            · have e : L_X3_fewest_31 st p p1 (c + 1 + 1) b (nI k) q = L_X3_fewest_31 st p p1 (c + 1) b (nI k + 1) (F_X3_isWithin st q (st 21 &&& (nI k ^^^ (-1))) p).2 := (if_neg hn).trans ((if_pos c1).trans ((if_neg c2).trans ((if_neg c4).trans (if_pos c3))))
              rw [e, nI_1]
              exact ih (k + 1) b _ (by omega) (by omega) (keepN (fun hx => (wi q).mp c3 (h3 ▸ hx.2)))
            · have e : L_X3_fewest_31 st p p1 (c + 1 + 1) b (nI k) q = L_X3_fewest_31 st p p1 (c + 1) (nI k) (nI k + 1) (F_X3_isWithin st q (st 21 &&& (nI k ^^^ (-1))) p).2 := (if_neg hn).trans ((if_pos c1).trans ((if_neg c2).trans ((if_neg c4).trans (if_neg c3))))
              rw [e, nI_1]
              have hPk : Pm now p k := ⟨c1', by rw [h3]; exact Classical.byContradiction (fun hw => c3 ((wi q).mpr hw))⟩
              have hlt : szN k < szN m := by
                rcases Nat.lt_or_ge (szN k) (szN m) with q1 | q1
                · exact q1
                · exact absurd (hle.mpr q1) c4
              refine ih (k + 1) (nI k) _ (by omega) (by omega) (Or.inr ⟨k, by omega, rfl, hPk, fun m' a1 a2 => ?_⟩)
              by_cases e : m' = k
              · rw [e]; exact Or.inr ⟨rfl, Nat.le_refl _⟩
              · have := b4 m' (by omega) a2
                omega
      · have e : L_X3_fewest_31 st p p1 (c + 1 + 1) b (nI k) q = L_X3_fewest_31 st p p1 (c + 1) b (nI k + 1) q := (if_neg hn).trans (if_neg c1)
        rw [e, nI_1]
        exact ih (k + 1) b _ (by omega) (by omega) (keepN (fun hx => c1 (by rw [← h3]; exact hx.1)))
section OPS5
variable {now im0 im1 : Sm} {kp : Int32} {st im kt : Nat → Int32}
theorem op_fewest (h : Rel now im0 im1 kp st im kt) (t md : Rd) (p0 p1 : Int32) : (F_X2_fewest now t p0 p1).1 = (F_X3_fewest st md p0 p1).1 := by
  have e0 : F_X2_isBetween p0 0 9999 = F_X3_in p0.toInt64 0 9999 := btw_in p0 0 9999
  have e1 : F_X2_isBetween p1 0 1 = F_X3_in p1.toInt64 0 1 := btw_in p1 0 1
  unfold F_X2_fewest F_X3_fewest
  rw [e0, e1]
  by_cases c0 : F_X3_in p0.toInt64 0 9999 = 0
  · rw [if_pos c0, if_pos c0]
  · rw [if_neg c0, if_neg c0]
    by_cases c1 : F_X3_in p1.toInt64 0 1 = 0
    · rw [if_pos c1, if_pos c1]
    · rw [if_neg c1, if_neg c1]
      obtain ⟨M, hM, m1, m2, hb⟩ := SR_M h.1
      have hct := fb_ct_le (bt now.2.2.2.1) 10
      have hbc : F_J6_bitCount_0f7a4 now.2.2.2.1 = nI (fb_ct (bt now.2.2.2.1) 10) := by rw [bc_eq (fun j hj hj2 => hb j (by omega) hj2), size_eq]
      have hb3 : (F_J6_bitCount_0f7a4 now.2.2.2.1 - 3).toInt = (fb_ct (bt now.2.2.2.1) 10 : Int) - 3 := by
        rw [hbc]
        exact pk_sub_toInt (a := fb_ct (bt now.2.2.2.1) 10) (b := 3) (by omega) (by decide)
      have k1 := few_cL h.1 (p1 := p1) (lim_in c0) hb3 61 0 t rfl (fun m _ hx => by omega)
      have k2 := few_mL h.1 (lim_in c0) (in01p c1) hM m1 m2 1024 0 (-6) md rfl (Nat.zero_le _) (Or.inl ⟨rfl, fun m hx => by omega⟩)
      exact RES_one k1 k2
end OPS5
