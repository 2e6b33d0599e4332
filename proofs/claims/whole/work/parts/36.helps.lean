/-! helps -/
def gx (k : Nat) : Int32 := nI k + (-40)
theorem gx_succ (k : Nat) : gx k + 1 = gx (k + 1) := by
  unfold gx
  rw [← nI_1, Int32.add_assoc, Int32.add_assoc, Int32.add_comm (-40) 1]
theorem gx_int {k : Nat} (hk : k ≤ 1000) : (gx k).toInt = (k : Int) - 40 := by
  unfold gx
  have e : (-40 : Int32).toInt = -40 := by decide
  have hn := nI_toInt (n := k) (by omega)
  rw [i_add (by omega) (by omega), hn, e]
  omega
theorem gx_lt {k : Nat} (hk : k ≤ 1000) : ((40 : Int32) < gx k) ↔ 81 ≤ k := by
  rw [Int32.lt_iff_toInt_lt, gx_int hk]
  have e : (40 : Int32).toInt = 40 := by decide
  omega
theorem gx_IB {k : Nat} (hk : k < 81) : IB (gx k) := by
  unfold IB
  rw [gx_int (by omega)]
  omega
def orR (g : Nat → Int32) : Nat → Nat → Int32 → Int32
  | 0, _, f => f
  | c + 1, k, f => orR g c (k + 1) (f ||| g k)
def itF (F : Nat → Int32 → Int32) : Nat → Nat → Int32 → Int32
  | 0, _, f => f
  | c + 1, k, f => itF F c (k + 1) (F k f)
theorem layR_nine {r r' : Rd} (h : nine r = nine r') : F_X3_layRound r = F_X3_layRound r' := by
  unfold nine at h
  simp only [Prod.mk.injEq] at h
  obtain ⟨h1, h2, h3, h4, h5, h6, h7, h8, h9⟩ := h
  unfold F_X3_layRound
  rw [h1, h2, h3, h4, h5, h6, h7, h8, h9]
/-- what one place helps, by the reference -/
def HB (st : Nat → Int32) (x y : Int32) : Int32 := (F_X3_bitWith st (0, 0, 0, 0, 0, 0, 0, 0, 0, 0, 0, 0, 0) x y).1
theorem bw_any {now : Sm} {st : Nat → Int32} (h : SR now st 0) (q : Rd) (x y : Int32) : (F_X3_bitWith st q x y).1 = HB st x y := by
  have hb := h.2.2.2.2.2.1
  have h3 : now.2.2.2.1 = st 21 := h.2.2.1
  have e : F_X3_layRound (F_X3_sumOne (F_X3_sumSet st q (st 21)) x y) = F_X3_layRound (F_X3_sumOne (F_X3_sumSet st (0, 0, 0, 0, 0, 0, 0, 0, 0, 0, 0, 0, 0) (st 21)) x y) := by
    apply layR_nine
    rw [nine_one, nine_one, ← h3, nine_m h q hb, nine_m h _ hb]
  unfold HB F_X3_bitWith
  rw [e]
/-- the round with one more sample, on both sides -/
theorem more {now : Sm} {st : Nat → Int32} (h : SR now st 0) {Q : Rd} (hQ : nine Q = om (aS now now.2.2.2.1)) (z md : Rd) {x y : Int32} (hx : IB x) (hy : IB y) : ∃ a : Z9, GD 11 a ∧ CL (F_X0_lay (F_X0_include (F_X0_startFrom z Q) x y)) a ∧ ML (F_X3_layRound (F_X3_sumOne (F_X3_sumSet st md (st 21)) x y)) a := by
  have hb := h.2.2.2.2.2.1
  have h3 : now.2.2.2.1 = st 21 := h.2.2.1
  refine ⟨incZ (aS now now.2.2.2.1) x.toInt y.toInt, gd_inc hx.b hy.b (gd_IZ (SR_IB h) 10 (Nat.le_refl _)), cl_lay ?_, ml_lay ?_⟩
  · rw [nine_inc]
    have e : nine (F_X0_startFrom z Q) = nine Q := rfl
    rw [e, hQ, inc_om hx hy]
  · rw [nine_one, ← h3, nine_m h md hb, inc_om hx hy]
theorem or_0 (f : Int32) : f ||| 0 = f := b_ext (fun j _ => by rw [b_or, b_0]; simp)
theorem or_sub {f o : Int32} (h : (o &&& (f ^^^ (-1))) = 0) : f ||| o = f := by
  apply b_ext
  intro j hj
  have e : bt (o &&& (f ^^^ (-1))) j = false := by rw [h, b_0]
  rw [b_and, b_xor, b_m1 j hj] at e
  rw [b_or]
  cases hf : bt f j <;> cases ho : bt o j <;> rw [hf, ho] at e <;> first | rfl | exact absurd e (by decide)
theorem or_comm32 (a b : Int32) : a ||| b = b ||| a := b_ext (fun j _ => by rw [b_or, b_or, Bool.or_comm])
theorem HB_eq {now : Sm} {st : Nat → Int32} (h : SR now st 0) (hm : MB st) {Q : Rd} (hQ : nine Q = om (aS now now.2.2.2.1)) (z : Rd) {x y : Int32} (hx : IB x) (hy : IB y) (f : Int32) : f ||| (F_X2_helpAt now Q z x y f).1 = f ||| HB st x y := by
  obtain ⟨a, hg, hc, hq⟩ := more h hQ z (0, 0, 0, 0, 0, 0, 0, 0, 0, 0, 0, 0, 0) hx hy
  have h4 : now.2.2.2.2 = st 22 := h.2.2.2.1
  unfold HB F_X2_helpAt F_X3_bitWith
  generalize F_X0_lay (F_X0_include (F_X0_startFrom z Q) x y) = R at hc ⊢
  generalize F_X3_layRound (F_X3_sumOne (F_X3_sumSet st (0, 0, 0, 0, 0, 0, 0, 0, 0, 0, 0, 0, 0) (st 21)) x y) = W at hq ⊢
  have hf := flat_iff hg hc
  have hb := by_zero hg hq
  by_cases hz : zBY a = 0
  · rw [if_neg (fun q => (hf.mp q) hz), if_pos (hb.mpr hz)]
  · rw [if_pos (hf.mpr hz), if_neg (fun q => hz (hb.mp q))]
    rw [eighth_eq hg hc hq hz hx hy, bit_same, cover_eq h hg hc hq hz, h4]
    have hi : ∀ j : Nat, 8 ≤ j → bt (F_X3_bit (F_X3_eighthAt W x y) ||| F_X3_coverOf st W (st 21)) j = false := by
      intro j hj
      rw [b_or, bit_hi W x y hj, cover_hi hm W (st 21) hj]
      rfl
    rw [bc_eq (fun j hj _ => hi j (by omega)), or_comm32 (F_X3_bit (F_X3_eighthAt W x y)) (F_X3_coverOf st W (st 21))]
    by_cases c1 : (F_X3_bit (F_X3_eighthAt W x y) &&& (f ^^^ (-1))) = 0
    · rw [if_pos c1]
      show f ||| 0 = _
      rw [or_0]
      by_cases c2 : st 22 ≤ F_X3_size (F_X3_coverOf st W (st 21) ||| F_X3_bit (F_X3_eighthAt W x y))
      · rw [if_pos c2]
        exact (or_sub c1).symm
      · rw [if_neg c2]
        exact (or_0 f).symm
    · rw [if_neg c1]
      by_cases c2 : st 22 ≤ F_X3_size (F_X3_coverOf st W (st 21) ||| F_X3_bit (F_X3_eighthAt W x y))
      · rw [if_pos c2, if_neg (Int32.not_lt.mpr c2)]
      · rw [if_neg c2, if_pos (Int32.not_le.mp c2)]
theorem HB_hi {st : Nat → Int32} (x y : Int32) {j : Nat} (hj : 8 ≤ j) : bt (HB st x y) j = false := by
  unfold HB F_X3_bitWith
  generalize F_X3_layRound (F_X3_sumOne (F_X3_sumSet st (0, 0, 0, 0, 0, 0, 0, 0, 0, 0, 0, 0, 0) (st 21)) x y) = W
  split
  · exact b_0 j
  · split
    · exact bit_hi W x y hj
    · exact b_0 j
theorem or_255 {g : Int32} (h : ∀ j, 8 ≤ j → bt g j = false) : (255 : Int32) ||| g = 255 := by
  apply b_ext
  intro j hj
  rw [b_or, b_255]
  by_cases hj8 : j < 8
  · rw [decide_eq_true hj8]; rfl
  · rw [decide_eq_false hj8, h j (by omega)]; rfl
theorem orR_255 {g : Nat → Int32} (h : ∀ k j, 8 ≤ j → bt (g k) j = false) : ∀ c k, orR g c k 255 = 255 := by
  intro c
  induction c with
  | zero => intro k; rfl
  | succ c ih =>
    intro k
    show orR g c (k + 1) (255 ||| g k) = 255
    rw [or_255 (h k)]
    exact ih (k + 1)
theorem in_m {now : Sm} {st : Nat → Int32} (h : SR now st 0) (x : Int32) : ∀ (c k : Nat) (f : Int32) (q : Rd), k + c = 81 → (L_X3_helps_28 st (c + 1) x (gx k) f q).1 = orR (fun j => HB st x (gx j)) c k f := by
  intro c
  induction c with
  | zero =>
    intro k f q hc
    have e : L_X3_helps_28 st (0 + 1) x (gx k) f q = (f, q) := if_pos ((gx_lt (by omega)).mpr (by omega))
    rw [e]
    rfl
  | succ c ih =>
    intro k f q hc
    have e : L_X3_helps_28 st (c + 1 + 1) x (gx k) f q = L_X3_helps_28 st (c + 1) x (gx k + 1) (f ||| (F_X3_bitWith st q x (gx k)).1) (F_X3_bitWith st q x (gx k)).2 := if_neg (fun h => by have := (gx_lt (by omega)).mp h; omega)
    rw [e, gx_succ, ih (k + 1) _ _ (by omega), bw_any h]
    rfl
theorem in_c {now : Sm} {st : Nat → Int32} (h : SR now st 0) (hm : MB st) {Q : Rd} (hQ : nine Q = om (aS now now.2.2.2.1)) {x : Int32} (hx : IB x) : ∀ (c k : Nat) (f : Int32) (z : Rd), k + c = 81 → (L_X2_helps_65 now (c + 1) x (gx k) f Q z).1 = orR (fun j => HB st x (gx j)) c k f := by
  intro c
  induction c with
  | zero =>
    intro k f z hc
    have e : L_X2_helps_65 now (0 + 1) x (gx k) f Q z = (f, z) := if_pos ((gx_lt (by omega)).mpr (by omega))
    rw [e]
    rfl
  | succ c ih =>
    intro k f z hc
    have hn : ¬ (40 : Int32) < gx k := fun h => by have := (gx_lt (by omega)).mp h; omega
    by_cases hf : f = 255
    · have e : L_X2_helps_65 now (c + 1 + 1) x (gx k) f Q z = (f, z) := (if_neg hn).trans (if_pos hf)
      rw [e, hf]
      exact (orR_255 (fun k j hj => HB_hi _ _ hj) _ _).symm
    · have e : L_X2_helps_65 now (c + 1 + 1) x (gx k) f Q z = L_X2_helps_65 now (c + 1) x (gx k + 1) (f ||| (F_X2_helpAt now Q z x (gx k) f).1) Q (F_X2_helpAt now Q z x (gx k) f).2 := (if_neg hn).trans (if_neg hf)
      rw [e, gx_succ, ih (k + 1) _ _ (by omega), HB_eq h hm hQ z hx (gx_IB (by omega)) f]
      rfl
theorem out_m {now : Sm} {st : Nat → Int32} (h : SR now st 0) : ∀ (c k : Nat) (f : Int32) (q : Rd), k + c = 81 → (L_X3_helps_19 st (c + 1) (gx k) f q).1 = itF (fun k f => orR (fun j => HB st (gx k) (gx j)) 81 0 f) c k f := by
  intro c
  induction c with
  | zero =>
    intro k f q hc
    have e : L_X3_helps_19 st (0 + 1) (gx k) f q = (f, q) := if_pos ((gx_lt (by omega)).mpr (by omega))
    rw [e]
    rfl
  | succ c ih =>
    intro k f q hc
    have e : L_X3_helps_19 st (c + 1 + 1) (gx k) f q = L_X3_helps_19 st (c + 1) (gx k + 1) (L_X3_helps_28 st 82 (gx k) (-40) f q).1 (L_X3_helps_28 st 82 (gx k) (-40) f q).2 := if_neg (fun h => by have := (gx_lt (by omega)).mp h; omega)
    have e2 : (L_X3_helps_28 st 82 (gx k) (-40) f q).1 = orR (fun j => HB st (gx k) (gx j)) 81 0 f := in_m h (gx k) 81 0 f q rfl
    rw [e, gx_succ, ih (k + 1) _ _ (by omega), e2]
    rfl
theorem out_c {now : Sm} {st : Nat → Int32} (h : SR now st 0) (hm : MB st) {Q : Rd} (hQ : nine Q = om (aS now now.2.2.2.1)) : ∀ (c k : Nat) (f : Int32) (z : Rd), k + c = 81 → (L_X2_helps_56 now (c + 1) (gx k) f Q z).1 = itF (fun k f => orR (fun j => HB st (gx k) (gx j)) 81 0 f) c k f := by
  intro c
  induction c with
  | zero =>
    intro k f z hc
    have e : L_X2_helps_56 now (0 + 1) (gx k) f Q z = (f, Q, z) := if_pos ((gx_lt (by omega)).mpr (by omega))
    rw [e]
    rfl
  | succ c ih =>
    intro k f z hc
    have e : L_X2_helps_56 now (c + 1 + 1) (gx k) f Q z = L_X2_helps_56 now (c + 1) (gx k + 1) (L_X2_helps_65 now 82 (gx k) (-40) f Q z).1 Q (L_X2_helps_65 now 82 (gx k) (-40) f Q z).2 := if_neg (fun h => by have := (gx_lt (by omega)).mp h; omega)
    have e2 : (L_X2_helps_65 now 82 (gx k) (-40) f Q z).1 = orR (fun j => HB st (gx k) (gx j)) 81 0 f := in_c h hm hQ (gx_IB (by omega)) 81 0 f z rfl
    rw [e, gx_succ, ih (k + 1) _ _ (by omega), e2]
    rfl
-- a cover has no more eighths than samples
theorem ct_or (a b : Int32) : ∀ n, fb_ct (bt (a ||| b)) n ≤ fb_ct (bt a) n + fb_ct (bt b) n := by
  intro n
  induction n with
  | zero => exact Nat.le_refl _
  | succ n ih =>
    rw [fb_ct_succ, fb_ct_succ, fb_ct_succ, b_or]
    cases bt a n <;> cases bt b n <;> simp <;> omega
theorem ct_bits : ∀ e, e < 8 → fb_ct (bt (F_X3_bit (nI e))) 10 ≤ 1 := by decide +kernel
theorem ct_bit (q : Rd) (x y : Int32) : fb_ct (bt (F_X3_bit (F_X3_eighthAt q x y))) 10 ≤ 1 := by
  unfold F_X3_eighthAt
  rcases eighth_range (((2 * q.2.2.2.2.2.2.2.2.2.2.2.2) * x.toInt64) - q.2.2.2.2.2.2.2.2.2.1) (((2 * q.2.2.2.2.2.2.2.2.2.2.2.2) * y.toInt64) - q.2.2.2.2.2.2.2.2.2.2.1) with h | ⟨e, he, h⟩
  · rw [h]
    decide
  · rw [h]
    exact ct_bits e he
theorem ct_cvr {f : Nat → Int32} {s : Int32} (hf : ∀ k, fb_ct (bt (f k)) 10 ≤ 1) : ∀ n, fb_ct (bt (cvr f s n)) 10 ≤ fb_ct (bt s) n := by
  intro n
  induction n with
  | zero =>
    show fb_ct (bt 0) 10 ≤ 0
    decide
  | succ n ih =>
    show fb_ct (bt (if bt s n = true then cvr f s n ||| f n else cvr f s n)) 10 ≤ fb_ct (bt s) (n + 1)
    rw [fb_ct_succ (bt s) n]
    cases hb : bt s n
    · rw [if_neg (by decide), if_neg (by decide)]
      exact ih
    · rw [if_pos rfl, if_pos rfl]
      have h1 := ct_or (cvr f s n) (f n) 10
      have h2 := hf n
      omega
theorem HB_few {now : Sm} {st : Nat → Int32} (h : SR now st 0) (x y : Int32) (hne : (fb_ct (bt now.2.2.2.1) 10 : Int) + 1 < now.2.2.2.2.toInt) : HB st x y = 0 := by
  obtain ⟨M, hM, e1, e2, hb⟩ := SR_M h
  have h3 : now.2.2.2.1 = st 21 := h.2.2.1
  have h4 : now.2.2.2.2 = st 22 := h.2.2.2.1
  unfold HB F_X3_bitWith
  generalize F_X3_layRound (F_X3_sumOne (F_X3_sumSet st (0, 0, 0, 0, 0, 0, 0, 0, 0, 0, 0, 0, 0) (st 21)) x y) = W
  split
  · rfl
  · rw [if_neg]
    have e4 : F_X3_coverOf st W (st 21) = cvr (fun j => F_X3_bit (F_X3_eighthAt W (st (0 + j)) (st (10 + j)))) (st 21) M := coverOf_L W hM e2 10 0 0 rfl (Nat.zero_le _) rfl
    have c1 := ct_cvr (f := fun j => F_X3_bit (F_X3_eighthAt W (st (0 + j)) (st (10 + j)))) (s := st 21) (fun k => ct_bit W _ _) M
    have c2 := ct_or (F_X3_coverOf st W (st 21)) (F_X3_bit (F_X3_eighthAt W x y)) 10
    have c3 := ct_bit W x y
    have c4 := fb_ct_mono (bt (st 21)) hM
    rw [Int32.le_iff_toInt_le, size_int, ← h4]
    rw [e4] at c2
    rw [h3] at hne
    rw [e4]
    omega
theorem orR_z {g : Nat → Int32} (h : ∀ k, g k = 0) : ∀ c k, orR g c k 0 = 0 := by
  intro c
  induction c with
  | zero => intro k; rfl
  | succ c ih =>
    intro k
    show orR g c (k + 1) (0 ||| g k) = 0
    rw [h k, or_0]
    exact ih (k + 1)
theorem itF_z {F : Nat → Int32 → Int32} (h : ∀ k, F k 0 = 0) : ∀ c k, itF F c k 0 = 0 := by
  intro c
  induction c with
  | zero => intro k; rfl
  | succ c ih =>
    intro k
    show itF F c (k + 1) (F k 0) = 0
    rw [h k]
    exact ih (k + 1)
section OPS6
variable {now im0 im1 : Sm} {kp : Int32} {st im kt : Nat → Int32}
theorem op_helps (h : Rel now im0 im1 kp st im kt) (r t md : Rd) : (F_X2_helps now r t).1 = (F_X3_helps st md).1 := by
  obtain ⟨M, hM, e1, e2, hb⟩ := SR_M h.1
  have hm := rel_mb h
  have hct := fb_ct_le (bt now.2.2.2.1) 10
  have hbc : F_J6_bitCount_0f7a4 now.2.2.2.1 = nI (fb_ct (bt now.2.2.2.1) 10) := by rw [bc_eq (fun j hj hj2 => hb j (by omega) hj2), size_eq]
  unfold F_X2_helps F_X3_helps
  rw [e1, e2]
  by_cases h10 : M = 10
  · have hx : (10 : Int32) ≤ nI M := by rw [h10]; decide
    have hy : nI M = 10 := by rw [h10]; rfl
    rw [if_pos hx, if_pos hy]
  · have hx : ¬ (10 : Int32) ≤ nI M := nI_ge (a := M) (b := 10) (by omega) (by decide)
    have hy : ¬ nI M = 10 := fun e => h10 ((nI_eq (a := M) (b := 10) (by omega) (by decide)).mp e)
    rw [if_neg hx, if_neg hy]
    have em : (L_X3_helps_19 st 82 (-40) 0 md).1 = itF (fun k f => orR (fun j => HB st (gx k) (gx j)) 81 0 f) 81 0 0 := out_m h.1 81 0 0 md rfl
    rw [em, hbc, nI_1]
    by_cases hc : now.2.2.2.2 ≤ nI (fb_ct (bt now.2.2.2.1) 10 + 1)
    · rw [if_pos hc]
      exact out_c h.1 hm (nine_c h.1 r now.2.2.2.1) 81 0 0 t rfl
    · rw [if_neg hc]
      rw [Int32.le_iff_toInt_le, nI_toInt (by omega)] at hc
      exact (itF_z (fun k => orR_z (fun j => HB_few h.1 _ _ (by omega)) 81 0) 81 0).symm
end OPS6
