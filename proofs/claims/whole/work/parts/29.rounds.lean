/-! both sides' rounds of one set -/
def aS (now : Sm) (s : Int32) : Z9 := IZ now.1 now.2.1 s 10
theorem SR_IB {now : Sm} {st : Nat → Int32} (h : SR now st 0) : ∀ j, j < 10 → IB (now.1 j) ∧ IB (now.2.1 j) := fun j hj => ⟨(h.1 j hj).2.2.1, (h.1 j hj).2.2.2⟩
theorem nine_c {now : Sm} {st : Nat → Int32} (h : SR now st 0) (r : Rd) (s : Int32) : nine (F_X2_sumUp now r s) = om (aS now s) := (sumUp_9 now r s).trans (S9_om (SR_IB h) 10 (Nat.le_refl _))
theorem nine_m {now : Sm} {st : Nat → Int32} (h : SR now st 0) (md : Rd) {s : Int32} (hb : ∀ j : Nat, now.2.2.1.toInt ≤ (j : Int) → j < 32 → bt s j = false) : nine (F_X3_sumSet st md s) = om (aS now s) := by
  obtain ⟨M, hM, e1, e2, -⟩ := SR_M h
  have hm : now.2.2.1.toInt = (M : Int) := by rw [e1, nI_toInt (by omega)]
  rw [sumSet_9 hM e2 md s]
  rw [S9_cong (xs' := now.1) (ys' := now.2.1) (fun j hj => ⟨((h.1 j (by omega)).1).symm, ?_⟩)]
  · have := S9_more (xs := now.1) (ys := now.2.1) (s := s) (M := M) (10 - M) (fun j h1 h2 => hb j (by omega) (by omega))
    rw [← this, show M + (10 - M) = 10 by omega]
    exact S9_om (SR_IB h) 10 (Nat.le_refl _)
  · have := (h.1 j (by omega)).2.1
    rw [this, Nat.zero_add]
theorem gd_aS {now : Sm} {st : Nat → Int32} (h : SR now st 0) (s : Int32) : GD 11 (aS now s) := by
  have := gd_IZ (xs := now.1) (ys := now.2.1) (s := s) (SR_IB h) 10 (Nat.le_refl _)
  exact ⟨bd_up this.1, this.2⟩
theorem lay_snd (st : Nat → Int32) (md : Rd) (s : Int32) : (F_X3_lay st md s).2 = F_X3_layRound (F_X3_sumSet st md s) := by
  unfold F_X3_lay
  split <;> rfl
theorem small_le {x : Int} {A : Nat} (h : BB x A) (hA : A ≤ SMB) : SM x := h.le hA
theorem sm_BY {a : Z9} (h : GD 11 a) : SM (zBY a) := (bd_BY h).le (Nat.le_of_ble_eq_true rfl)
theorem by_zero {q : Rd} {a : Z9} (hg : GD 11 a) (hq : ML q a) : (lg_cmp q.2.2.2.2.2.2.2.2.2.2.2.2 0 = 0) ↔ zBY a = 0 := by
  rw [hq.1, lg_cmp_eq, ← Int64.toInt_inj, o_int (sm_BY hg)]
  rfl
theorem lay_fst {now : Sm} {st : Nat → Int32} (h : SR now st 0) (md : Rd) {s : Int32} (hb : ∀ j : Nat, now.2.2.1.toInt ≤ (j : Int) → j < 32 → bt s j = false) : (F_X3_lay st md s).1 = 0 ↔ zBY (aS now s) = 0 := by
  have hq := ml_lay (nine_m h md hb)
  have hz := by_zero (gd_aS h s) hq
  unfold F_X3_lay
  by_cases c : lg_cmp ((F_X3_layRound (F_X3_sumSet st md s)).2.2.2.2.2.2.2.2.2.2.2.2) 0 = 0
  · rw [if_pos c]
    exact ⟨fun _ => hz.mp c, fun _ => rfl⟩
  · rw [if_neg c]
    exact ⟨fun h => absurd (show (1 : Int32) = 0 from h) (by decide), fun h => absurd (hz.mpr h) c⟩
theorem ml_of {now : Sm} {st : Nat → Int32} (h : SR now st 0) (md : Rd) {s : Int32} (hb : ∀ j : Nat, now.2.2.1.toInt ≤ (j : Int) → j < 32 → bt s j = false) : ML (F_X3_lay st md s).2 (aS now s) := by
  rw [lay_snd]
  exact ml_lay (nine_m h md hb)
theorem cl_of {now : Sm} {st : Nat → Int32} (h : SR now st 0) (r : Rd) (s : Int32) : CL (F_X0_lay (F_X2_sumUp now r s)) (aS now s) := cl_lay (nine_c h r s)
theorem bd_nBY {a : Z9} (h : GD 11 a) : BB (a.1 * zBY a) 224885760000 := ((bd_n h).mul (bd_BY h)).le (Nat.le_of_ble_eq_true rfl)
theorem nBY_pos {a : Z9} (h : GD 11 a) : (0 < a.1 * zBY a) ↔ ¬ zBY a = 0 := by
  obtain ⟨h1, h2⟩ := by_nn h
  constructor
  · intro h3 h4
    rw [h4, Int.mul_zero] at h3
    omega
  · intro h3
    exact Int.mul_pos (h2 h3) (by omega)
theorem flat_iff {r : Rd} {a : Z9} (hg : GD 11 a) (hr : CL r a) : (F_X0_isFlat r = 0) ↔ ¬ zBY a = 0 := by
  unfold F_X0_isFlat
  have e : (0 < lg_cmp r.2.2.2.2.2.2.2.2.2.1 0) ↔ 0 < a.1 * zBY a := by
    rw [hr.2.1, lg_cmp_gt, Int64.lt_iff_toInt_lt, o_int ((bd_nBY hg).le (Nat.le_of_ble_eq_true rfl))]
    rfl
  rw [← nBY_pos hg]
  by_cases c : 0 < lg_cmp r.2.2.2.2.2.2.2.2.2.1 0
  · rw [if_pos c]
    exact ⟨fun _ => e.mp c, fun _ => rfl⟩
  · rw [if_neg c]
    exact ⟨fun h => absurd h (by decide), fun h => absurd (e.mpr h) c⟩
-- off
def zOff (a : Z9) (x y : Int) : Int := (((x * x + y * y) * zBY a - zA a * x) - zB a * y) - zC a
theorem bd_off {a : Z9} (h : GD 11 a) {x y : Int} (hx : BB x 40) (hy : BB y 40) : BB (zOff a x y) 261685248000000 :=
  (((((hx.mul hx).add (hy.mul hy)).mul (bd_BY h)).sub ((bd_A h).mul hx)).sub ((bd_B h).mul hy)).sub (bd_C h) |>.le (Nat.le_of_ble_eq_true rfl)
theorem bd_nn {a : Z9} (h : GD 11 a) : BB (a.1 * a.1) 121 := ((bd_n h).mul (bd_n h)).le (Nat.le_of_ble_eq_true rfl)
theorem off_c {r : Rd} {a : Z9} (hr : CL r a) {x y : Int32} (hx : IB x) (hy : IB y) : F_X0_offUpperAt r x y = o64 (a.1 * a.1 * zOff a x.toInt y.toInt) := by
  obtain ⟨h1, h2, h3, h4, h5⟩ := hr
  have ep : (F_X2_powerAt x y).toInt64 = o64 (x.toInt * x.toInt + y.toInt * y.toInt) := by
    unfold F_X2_powerAt
    rw [ito, ipow hx hy]
  unfold F_X0_offUpperAt
  rw [ep, h1, h2, h3, h4, h5, ito x, ito y]
  have e : a.1 * a.1 * zOff a x.toInt y.toInt = a.1 * ((((x.toInt * x.toInt + y.toInt * y.toInt) * (a.1 * zBY a)) - (a.1 * zA a) * x.toInt) - (a.1 * zB a) * y.toInt) - a.1 * a.1 * zC a := by
    unfold zOff
    grind
  rw [e]
  unfold o64
  simp only [Int64.ofInt_sub, Int64.ofInt_mul]
theorem off_m {q : Rd} {a : Z9} (hq : ML q a) {x y : Int32} (hx : IB x) (hy : IB y) : ((((((x * x + y * y : Int32).toInt64) * q.2.2.2.2.2.2.2.2.2.2.2.2) - (q.2.2.2.2.2.2.2.2.2.1 * x.toInt64)) - (q.2.2.2.2.2.2.2.2.2.2.1 * y.toInt64)) - q.2.2.2.2.2.2.2.2.2.2.2.1) = o64 (zOff a x.toInt y.toInt) := by
  obtain ⟨h1, h2, h3, h4⟩ := hq
  have ep : (x * x + y * y : Int32).toInt64 = o64 (x.toInt * x.toInt + y.toInt * y.toInt) := by rw [ito, ipow hx hy]
  rw [ep, h1, h2, h3, h4, ito x, ito y]
  unfold zOff o64
  simp only [Int64.ofInt_sub, Int64.ofInt_mul]
theorem offOf_m {now : Sm} {st : Nat → Int32} (h : SR now st 0) {q : Rd} {a : Z9} (hq : ML q a) {k : Nat} (hk : k < 10) : F_X3_offOf st q (nI k) = o64 (zOff a (now.1 k).toInt (now.2.1 k).toInt) := by
  obtain ⟨x1, x2, x3, x4⟩ := h.1 k hk
  unfold F_X3_offOf F_X3_power
  rw [c0_nI (st := st) hk, c10_nI (st := st) hk]
  have e : st (10 + k) = now.2.1 k := by rw [x2, Nat.zero_add]
  rw [← x1, e]
  exact off_m hq x3 x4
theorem full_c {r : Rd} {a : Z9} (hr : CL r a) : F_X0_fullLower r = o64 (a.1 * a.1 * zBY a) := by
  unfold F_X0_fullLower
  rw [hr.1, hr.2.1, Int.mul_assoc]
  exact (Int64.ofInt_mul _ _).symm
-- eighths
theorem eighth_eq {r q : Rd} {a : Z9} (hg : GD 11 a) (hr : CL r a) (hq : ML q a) (hz : ¬ zBY a = 0) {x y : Int32} (hx : IB x) (hy : IB y) : F_X0_eighthAt r x y = F_X3_eighthAt q x y := by
  have hn := (by_nn hg).2 hz
  obtain ⟨h1, h2, h3, h4, h5⟩ := hr
  obtain ⟨g1, g2, g3, g4⟩ := hq
  unfold F_X0_eighthAt F_X3_eighthAt
  rw [h2, h3, h4, g1, g2, g3, ito x, ito y]
  have t2 : (2 : Int64) = o64 2 := rfl
  have cx : ((2 * o64 (a.1 * zBY a)) * o64 x.toInt) - o64 (a.1 * zA a) = o64 (a.1 * (2 * zBY a * x.toInt - zA a)) := by
    have e : a.1 * (2 * zBY a * x.toInt - zA a) = (2 * (a.1 * zBY a)) * x.toInt - a.1 * zA a := by grind
    rw [e, t2]
    unfold o64
    simp only [Int64.ofInt_sub, Int64.ofInt_mul]
  have cy : ((2 * o64 (a.1 * zBY a)) * o64 y.toInt) - o64 (a.1 * zB a) = o64 (a.1 * (2 * zBY a * y.toInt - zB a)) := by
    have e : a.1 * (2 * zBY a * y.toInt - zB a) = (2 * (a.1 * zBY a)) * y.toInt - a.1 * zB a := by grind
    rw [e, t2]
    unfold o64
    simp only [Int64.ofInt_sub, Int64.ofInt_mul]
  have mx : ((2 * o64 (zBY a)) * o64 x.toInt) - o64 (zA a) = o64 (2 * zBY a * x.toInt - zA a) := by
    rw [t2]
    unfold o64
    simp only [Int64.ofInt_sub, Int64.ofInt_mul]
  have my : ((2 * o64 (zBY a)) * o64 y.toInt) - o64 (zB a) = o64 (2 * zBY a * y.toInt - zB a) := by
    rw [t2]
    unfold o64
    simp only [Int64.ofInt_sub, Int64.ofInt_mul]
  rw [cx, cy, mx, my]
  have b2 : BB (2 : Int) 2 := Nat.le_refl 2
  have bx : BB (2 * zBY a * x.toInt - zA a) 3271065600000 := (((b2.mul (bd_BY hg)).mul hx.b).sub (bd_A hg)).le (Nat.le_of_ble_eq_true rfl)
  have by_ : BB (2 * zBY a * y.toInt - zB a) 3271065600000 := (((b2.mul (bd_BY hg)).mul hy.b).sub (bd_B hg)).le (Nat.le_of_ble_eq_true rfl)
  exact eight_scale hn (((bd_n hg).mul bx).le (Nat.le_of_ble_eq_true rfl)) (((bd_n hg).mul by_).le (Nat.le_of_ble_eq_true rfl)) (bx.le (Nat.le_of_ble_eq_true rfl)) (by_.le (Nat.le_of_ble_eq_true rfl))
def ER (x : Int32) : Prop := x = -6 ∨ ∃ e, e < 8 ∧ x = nI e
theorem er_if {c : Prop} [Decidable c] {x y : Int32} (h1 : ER x) (h2 : ER y) : ER (if c then x else y) := by
  by_cases h : c
  · rw [if_pos h]; exact h1
  · rw [if_neg h]; exact h2
theorem er_m : ER (-6) := Or.inl rfl
theorem er_k (e : Nat) (h : e < 8) : ER (nI e) := Or.inr ⟨e, h, rfl⟩
theorem eighth_range (P Q : Int64) : ER (F_X3_eighthOf P Q) := by
  have a106 : ER (L_X3_eighthOf_106 P Q) := er_if er_m (er_if er_m (er_k 7 (by decide)))
  have a90 : ER (L_X3_eighthOf_90 P Q) := er_if a106 (er_if a106 (er_k 6 (by decide)))
  have a74 : ER (L_X3_eighthOf_74 P Q) := er_if a90 (er_if a90 (er_k 5 (by decide)))
  have a58 : ER (L_X3_eighthOf_58 P Q) := er_if a74 (er_if a74 (er_k 4 (by decide)))
  have a43 : ER (L_X3_eighthOf_43 P Q) := er_if a58 (er_if a58 (er_k 3 (by decide)))
  have a28 : ER (L_X3_eighthOf_28 P Q) := er_if a43 (er_if a43 (er_k 2 (by decide)))
  have a14 : ER (L_X3_eighthOf_14 P Q) := er_if a28 (er_if a28 (er_k 1 (by decide)))
  exact er_if a14 (er_if a14 (er_k 0 (by decide)))
theorem bit_same (e : Int32) : F_X2_setOfEighth e = F_X3_bit e := by
  unfold F_X2_setOfEighth F_X3_bit
  by_cases h : e < 0
  · rw [if_pos h, if_neg (Int32.not_le.mpr h)]
  · rw [if_neg h, if_pos (Int32.not_lt.mp h)]
theorem bit_bits : ∀ e, e < 8 → ∀ j, j < 32 → 8 ≤ j → bt (F_X3_bit (nI e)) j = false := by decide +kernel
theorem bit_hi (q : Rd) (x y : Int32) {j : Nat} (hj : 8 ≤ j) : bt (F_X3_bit (F_X3_eighthAt q x y)) j = false := by
  by_cases h32 : j < 32
  · unfold F_X3_eighthAt
    rcases eighth_range (((2 * q.2.2.2.2.2.2.2.2.2.2.2.2) * x.toInt64) - q.2.2.2.2.2.2.2.2.2.1) (((2 * q.2.2.2.2.2.2.2.2.2.2.2.2) * y.toInt64) - q.2.2.2.2.2.2.2.2.2.2.1) with h | ⟨e, he, h⟩
    · rw [h]
      have : F_X3_bit (-6) = 0 := by decide
      rw [this, b_0]
    · rw [h]
      exact bit_bits e he j h32 hj
  · exact b_big (by omega)
-- covers
def cvr (f : Nat → Int32) (s : Int32) : Nat → Int32
  | 0 => 0
  | k + 1 => if bt s k = true then cvr f s k ||| f k else cvr f s k
theorem cvr_cong {f g : Nat → Int32} {s : Int32} : ∀ {n : Nat}, (∀ j, j < n → bt s j = true → f j = g j) → cvr f s n = cvr g s n := by
  intro n
  induction n with
  | zero => intro _; rfl
  | succ n ih =>
    intro h
    show (if bt s n = true then cvr f s n ||| f n else cvr f s n) = (if bt s n = true then cvr g s n ||| g n else cvr g s n)
    rw [ih (fun j hj => h j (by omega))]
    by_cases hb : bt s n = true
    · rw [if_pos hb, if_pos hb, h n (by omega) hb]
    · rw [if_neg hb, if_neg hb]
theorem cvr_more {f : Nat → Int32} {s : Int32} {M : Nat} : ∀ (c : Nat), (∀ j, M ≤ j → j < M + c → bt s j = false) → cvr f s (M + c) = cvr f s M := by
  intro c
  induction c with
  | zero => intro _; rfl
  | succ c ih =>
    intro h
    show (if bt s (M + c) = true then _ else cvr f s (M + c)) = _
    rw [if_neg (by rw [h (M + c) (by omega) (by omega)]; decide)]
    exact ih (fun j h1 h2 => h j h1 (by omega))
theorem cvr_hi {f : Nat → Int32} {s : Int32} {j : Nat} (hf : ∀ k, bt (f k) j = false) : ∀ n, bt (cvr f s n) j = false := by
  intro n
  induction n with
  | zero => exact b_0 j
  | succ n ih =>
    show bt (if bt s n = true then cvr f s n ||| f n else cvr f s n) j = false
    by_cases hb : bt s n = true
    · rw [if_pos hb, b_or, ih, hf n]; rfl
    · rw [if_neg hb]; exact ih
theorem coverBy_L (now : Sm) (r : Rd) : ∀ (c k : Nat) (v : Int32), k + c = 10 → v = cvr (fun j => F_X3_bit (F_X0_eighthAt r (now.1 j) (now.2.1 j))) now.2.2.2.1 k → L_X2_coverBy_4 now r (c + 1) v (nI k) = cvr (fun j => F_X3_bit (F_X0_eighthAt r (now.1 j) (now.2.1 j))) now.2.2.2.1 10 := by
  intro c
  induction c with
  | zero =>
    intro k v h hv
    have hk : k = 10 := by omega
    subst hk
    have e : L_X2_coverBy_4 now r (0 + 1) v (nI 10) = v := if_pos (by decide)
    rw [e, hv]
  | succ c ih =>
    intro k v h hv
    have hn : ¬ (10 : Int32) ≤ nI k := nI_ge (a := k) (b := 10) (by omega) (by decide)
    cases hb : bt now.2.2.2.1 k
    · have e : L_X2_coverBy_4 now r (c + 1 + 1) v (nI k) = L_X2_coverBy_4 now r (c + 1) v (nI k + 1) := (if_neg hn).trans (if_pos (isIn0 _ (by omega) hb))
      rw [e, nI_1]
      refine ih (k + 1) v (by omega) ?_
      show v = if bt now.2.2.2.1 k = true then _ else _
      rw [if_neg (by rw [hb]; decide)]
      exact hv
    · have e : L_X2_coverBy_4 now r (c + 1 + 1) v (nI k) = L_X2_coverBy_4 now r (c + 1) (v ||| (F_X2_setOfEighth (F_X0_eighthAt r (now.1 (nI k).toNatClampNeg) (now.2.1 (nI k).toNatClampNeg)))) (nI k + 1) := (if_neg hn).trans (if_neg (isIn1 _ (by omega) hb))
      rw [e, nI_1, nI_clamp (by omega), bit_same]
      refine ih (k + 1) _ (by omega) ?_
      show _ = if bt now.2.2.2.1 k = true then _ ||| _ else _
      rw [if_pos hb, hv]
theorem coverOf_L {st : Nat → Int32} (q : Rd) {s : Int32} {M : Nat} (hM : M ≤ 10) (hs : st 20 = nI M) : ∀ (c k : Nat) (v : Int32), k + c = 10 → k ≤ M → v = cvr (fun j => F_X3_bit (F_X3_eighthAt q (st (0 + j)) (st (10 + j)))) s k → L_X3_coverOf_4 st q s (c + 1) v (nI k) = cvr (fun j => F_X3_bit (F_X3_eighthAt q (st (0 + j)) (st (10 + j)))) s M := by
  intro c
  induction c with
  | zero =>
    intro k v h hk hv
    have hk2 : k = M := by omega
    have e : L_X3_coverOf_4 st q s (0 + 1) v (nI k) = v := if_pos (by rw [hs]; exact nI_le (by omega) (by omega))
    rw [e, hv, hk2]
  | succ c ih =>
    intro k v h hk hv
    by_cases hk2 : k = M
    · have e : L_X3_coverOf_4 st q s (c + 1 + 1) v (nI k) = v := if_pos (by rw [hs, hk2]; exact nI_le (Nat.le_refl _) (by omega))
      rw [e, hv, hk2]
    · have hn : ¬ st 20 ≤ nI k := by rw [hs]; exact nI_ge (by omega) (by omega)
      cases hb : bt s k
      · have e : L_X3_coverOf_4 st q s (c + 1 + 1) v (nI k) = L_X3_coverOf_4 st q s (c + 1) (v ||| 0) (nI k + 1) := (if_neg hn).trans (if_neg (fun h => by have := (q_bit1 s (show k < 32 by omega)).mp h; rw [hb] at this; cases this))
        have ev : v ||| 0 = v := b_ext (fun j _ => by rw [b_or, b_0]; simp)
        rw [e, nI_1, ev]
        refine ih (k + 1) v (by omega) (by omega) ?_
        show v = if bt s k = true then _ else _
        rw [if_neg (by rw [hb]; decide)]
        exact hv
      · have e : L_X3_coverOf_4 st q s (c + 1 + 1) v (nI k) = L_X3_coverOf_4 st q s (c + 1) (v ||| (F_X3_bit (F_X3_eighthAt q (st (0 + nI k).toNatClampNeg) (st (10 + nI k).toNatClampNeg)))) (nI k + 1) := (if_neg hn).trans (if_pos ((q_bit1 s (show k < 32 by omega)).mpr hb))
        rw [e, nI_1, c0_nI (st := st) (k := k) (by omega), c10_nI (st := st) (k := k) (by omega)]
        refine ih (k + 1) _ (by omega) (by omega) ?_
        show _ = if bt s k = true then _ ||| _ else _
        rw [if_pos hb, hv]
theorem cover_eq {now : Sm} {st : Nat → Int32} (h : SR now st 0) {r q : Rd} {a : Z9} (hg : GD 11 a) (hr : CL r a) (hq : ML q a) (hz : ¬ zBY a = 0) : F_X2_coverBy now r = F_X3_coverOf st q (st 21) := by
  obtain ⟨M, hM, e1, e2, hb⟩ := SR_M h
  have h3 : now.2.2.2.1 = st 21 := h.2.2.1
  have e3 : F_X2_coverBy now r = cvr (fun j => F_X3_bit (F_X0_eighthAt r (now.1 j) (now.2.1 j))) now.2.2.2.1 10 := coverBy_L now r 10 0 0 rfl rfl
  have e4 : F_X3_coverOf st q (st 21) = cvr (fun j => F_X3_bit (F_X3_eighthAt q (st (0 + j)) (st (10 + j)))) (st 21) M := coverOf_L q hM e2 10 0 0 rfl (Nat.zero_le _) rfl
  rw [e3, e4, ← h3]
  have e5 := cvr_more (f := fun j => F_X3_bit (F_X0_eighthAt r (now.1 j) (now.2.1 j))) (s := now.2.2.2.1) (M := M) (10 - M) (fun j h1 h2 => hb j h1 (by omega))
  rw [show M + (10 - M) = 10 by omega] at e5
  rw [e5]
  refine cvr_cong (fun j hj _ => ?_)
  obtain ⟨x1, x2, x3, x4⟩ := h.1 j (by omega)
  have e6 : st (10 + j) = now.2.1 j := by rw [x2, Nat.zero_add]
  show F_X3_bit (F_X0_eighthAt r (now.1 j) (now.2.1 j)) = F_X3_bit (F_X3_eighthAt q (st (0 + j)) (st (10 + j)))
  rw [← x1, e6, eighth_eq hg hr hq hz x3 x4]
theorem cover_hi {st : Nat → Int32} (hm : MB st) (q : Rd) (s : Int32) {j : Nat} (hj : 8 ≤ j) : bt (F_X3_coverOf st q s) j = false := by
  obtain ⟨M, hM, e2⟩ := MB_n hm
  have e4 : F_X3_coverOf st q s = cvr (fun j => F_X3_bit (F_X3_eighthAt q (st (0 + j)) (st (10 + j)))) s M := coverOf_L q hM e2 10 0 0 rfl (Nat.zero_le _) rfl
  rw [e4]
  exact cvr_hi (fun k => bit_hi q _ _ hj) M
