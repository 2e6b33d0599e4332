/-! the round of nine sums, in whole numbers; both sides' forms of it -/
def zDet (p0 p1 p2 p3 p4 p5 p6 p7 p8 : Int) : Int := ((p0 * ((p4 * p8) - (p5 * p7))) - (p1 * ((p3 * p8) - (p5 * p6)))) + (p2 * ((p3 * p7) - (p4 * p6)))
theorem det_o (p0 p1 p2 p3 p4 p5 p6 p7 p8 : Int) : F_X3_det (o64 p0) (o64 p1) (o64 p2) (o64 p3) (o64 p4) (o64 p5) (o64 p6) (o64 p7) (o64 p8) = o64 (zDet p0 p1 p2 p3 p4 p5 p6 p7 p8) := by
  unfold F_X3_det zDet o64
  simp only [Int64.ofInt_add, Int64.ofInt_sub, Int64.ofInt_mul]
def zBY (a : Z9) : Int := zDet a.2.2.2.1 a.2.2.2.2.1 a.2.1 a.2.2.2.2.1 a.2.2.2.2.2.1 a.2.2.1 a.2.1 a.2.2.1 a.1
def zA (a : Z9) : Int := zDet a.2.2.2.2.2.2.2.1 a.2.2.2.2.1 a.2.1 a.2.2.2.2.2.2.2.2 a.2.2.2.2.2.1 a.2.2.1 a.2.2.2.2.2.2.1 a.2.2.1 a.1
def zB (a : Z9) : Int := zDet a.2.2.2.1 a.2.2.2.2.2.2.2.1 a.2.1 a.2.2.2.2.1 a.2.2.2.2.2.2.2.2 a.2.2.1 a.2.1 a.2.2.2.2.2.2.1 a.1
def zC (a : Z9) : Int := zDet a.2.2.2.1 a.2.2.2.2.1 a.2.2.2.2.2.2.2.1 a.2.2.2.2.1 a.2.2.2.2.2.1 a.2.2.2.2.2.2.2.2 a.2.1 a.2.2.1 a.2.2.2.2.2.2.1
/-- the class's round, laid: all that its answers use -/
def CL (r : Rd) (a : Z9) : Prop := r.1 = o64 a.1 ∧ r.2.2.2.2.2.2.2.2.2.1 = o64 (a.1 * zBY a) ∧ r.2.2.2.2.2.2.2.2.2.2.1 = o64 (a.1 * zA a) ∧ r.2.2.2.2.2.2.2.2.2.2.2.1 = o64 (a.1 * zB a) ∧ r.2.2.2.2.2.2.2.2.2.2.2.2 = o64 (a.1 * a.1 * zC a)
/-- the reference's -/
def ML (q : Rd) (a : Z9) : Prop := q.2.2.2.2.2.2.2.2.2.2.2.2 = o64 (zBY a) ∧ q.2.2.2.2.2.2.2.2.2.1 = o64 (zA a) ∧ q.2.2.2.2.2.2.2.2.2.2.1 = o64 (zB a) ∧ q.2.2.2.2.2.2.2.2.2.2.2.1 = o64 (zC a)
theorem nine_om {r : Rd} {a : Z9} (h : nine r = om a) : r.1 = o64 a.1 ∧ r.2.1 = o64 a.2.1 ∧ r.2.2.1 = o64 a.2.2.1 ∧ r.2.2.2.1 = o64 a.2.2.2.1 ∧ r.2.2.2.2.1 = o64 a.2.2.2.2.1 ∧ r.2.2.2.2.2.1 = o64 a.2.2.2.2.2.1 ∧ r.2.2.2.2.2.2.1 = o64 a.2.2.2.2.2.2.1 ∧ r.2.2.2.2.2.2.2.1 = o64 a.2.2.2.2.2.2.2.1 ∧ r.2.2.2.2.2.2.2.2.1 = o64 a.2.2.2.2.2.2.2.2 := by
  unfold nine om at h
  simp only [Prod.mk.injEq] at h
  exact h
theorem ml_lay {q : Rd} {a : Z9} (h : nine q = om a) : ML (F_X3_layRound q) a := by
  obtain ⟨h1, h2, h3, h4, h5, h6, h7, h8, h9⟩ := nine_om h
  unfold F_X3_layRound
  refine ⟨?_, ?_, ?_, ?_⟩
  · show F_X3_det _ _ _ _ _ _ _ _ _ = _
    rw [h1, h2, h3, h4, h5, h6, det_o]; rfl
  · show F_X3_det _ _ _ _ _ _ _ _ _ = _
    rw [h1, h2, h3, h5, h6, h7, h8, h9, det_o]; rfl
  · show F_X3_det _ _ _ _ _ _ _ _ _ = _
    rw [h1, h2, h3, h4, h5, h7, h8, h9, det_o]; rfl
  · show F_X3_det _ _ _ _ _ _ _ _ _ = _
    rw [h2, h3, h4, h5, h6, h7, h8, h9, det_o]; rfl
theorem id_sp (n sx sy sxx sxy syy : Int) : ((n * sxx - sx * sx) * (n * syy - sy * sy)) - ((n * sxy - sx * sy) * (n * sxy - sx * sy)) = n * zDet sxx sxy sx sxy syy sy sx sy n := by
  unfold zDet
  grind
theorem id_A (n sx sy sxx sxy syy sp spx spy : Int) : ((n * spx - sx * sp) * (n * syy - sy * sy)) - ((n * spy - sy * sp) * (n * sxy - sx * sy)) = n * zDet spx sxy sx spy syy sy sp sy n := by
  unfold zDet
  grind
theorem id_B (n sx sy sxx sxy syy sp spx spy : Int) : ((n * spy - sy * sp) * (n * sxx - sx * sx)) - ((n * spx - sx * sp) * (n * sxy - sx * sy)) = n * zDet sxx spx sx sxy spy sy sx sp n := by
  unfold zDet
  grind
theorem id_C (n sx sy sxx sxy syy sp spx spy : Int) : (sp * (n * zDet sxx sxy sx sxy syy sy sx sy n)) - ((n * zDet spx sxy sx spy syy sy sp sy n) * sx) - ((n * zDet sxx spx sx sxy spy sy sx sp n) * sy) = n * n * zDet sxx sxy spx sxy syy spy sx sy sp := by
  unfold zDet
  grind
theorem cl_lay {r : Rd} {a : Z9} (h : nine r = om a) : CL (F_X0_lay r) a := by
  obtain ⟨h1, h2, h3, h4, h5, h6, h7, h8, h9⟩ := nine_om h
  have es : (F_X0_lay r).2.2.2.2.2.2.2.2.2.1 = o64 (a.1 * zBY a) := by
    show (((r.1 * r.2.2.2.1) - (r.2.1 * r.2.1)) * ((r.1 * r.2.2.2.2.2.1) - (r.2.2.1 * r.2.2.1))) - (((r.1 * r.2.2.2.2.1) - (r.2.1 * r.2.2.1)) * ((r.1 * r.2.2.2.2.1) - (r.2.1 * r.2.2.1))) = _
    rw [h1, h2, h3, h4, h5, h6]
    unfold o64 zBY
    rw [← id_sp]
    simp only [Int64.ofInt_sub, Int64.ofInt_mul]
  have ea : (F_X0_lay r).2.2.2.2.2.2.2.2.2.2.1 = o64 (a.1 * zA a) := by
    show (((r.1 * r.2.2.2.2.2.2.2.1) - (r.2.1 * r.2.2.2.2.2.2.1)) * ((r.1 * r.2.2.2.2.2.1) - (r.2.2.1 * r.2.2.1))) - (((r.1 * r.2.2.2.2.2.2.2.2.1) - (r.2.2.1 * r.2.2.2.2.2.2.1)) * ((r.1 * r.2.2.2.2.1) - (r.2.1 * r.2.2.1))) = _
    rw [h1, h2, h3, h5, h6, h7, h8, h9]
    unfold o64 zA
    rw [← id_A _ _ _ 0]
    simp only [Int64.ofInt_sub, Int64.ofInt_mul]
  have eb : (F_X0_lay r).2.2.2.2.2.2.2.2.2.2.2.1 = o64 (a.1 * zB a) := by
    show (((r.1 * r.2.2.2.2.2.2.2.2.1) - (r.2.2.1 * r.2.2.2.2.2.2.1)) * ((r.1 * r.2.2.2.1) - (r.2.1 * r.2.1))) - (((r.1 * r.2.2.2.2.2.2.2.1) - (r.2.1 * r.2.2.2.2.2.2.1)) * ((r.1 * r.2.2.2.2.1) - (r.2.1 * r.2.2.1))) = _
    rw [h1, h2, h3, h4, h5, h7, h8, h9]
    unfold o64 zB
    rw [← id_B _ _ _ _ _ 0]
    simp only [Int64.ofInt_sub, Int64.ofInt_mul]
  have ec : (F_X0_lay r).2.2.2.2.2.2.2.2.2.2.2.2 = o64 (a.1 * a.1 * zC a) := by
    show ((r.2.2.2.2.2.2.1 * (F_X0_lay r).2.2.2.2.2.2.2.2.2.1) - ((F_X0_lay r).2.2.2.2.2.2.2.2.2.2.1 * r.2.1)) - ((F_X0_lay r).2.2.2.2.2.2.2.2.2.2.2.1 * r.2.2.1) = _
    rw [es, ea, eb, h2, h3, h7]
    unfold o64 zC
    rw [← id_C]
    simp only [Int64.ofInt_sub, Int64.ofInt_mul]
    rfl
  exact ⟨h1, es, ea, eb, ec⟩
-- sizes
def BdZ (k : Nat) (a : Z9) : Prop := (0 ≤ a.1 ∧ a.1 ≤ (k : Int)) ∧ BB a.2.1 (40 * k) ∧ BB a.2.2.1 (40 * k) ∧ BB a.2.2.2.1 (1600 * k) ∧ BB a.2.2.2.2.1 (1600 * k) ∧ BB a.2.2.2.2.2.1 (1600 * k) ∧ BB a.2.2.2.2.2.2.1 (3200 * k) ∧ BB a.2.2.2.2.2.2.2.1 (128000 * k) ∧ BB a.2.2.2.2.2.2.2.2 (128000 * k)
theorem bd_inc {k : Nat} {a : Z9} {x y : Int} (hx : BB x 40) (hy : BB y 40) (h : BdZ k a) : BdZ (k + 1) (incZ a x y) := by
  obtain ⟨⟨h1, h1'⟩, h2, h3, h4, h5, h6, h7, h8, h9⟩ := h
  have hp : BB (x * x + y * y) 3200 := (hx.mul hx).add (hy.mul hy)
  refine ⟨⟨?_, ?_⟩, (h2.add hx).le (by omega), (h3.add hy).le (by omega), (h4.add (hx.mul hx)).le (by omega), (h5.add (hx.mul hy)).le (by omega), (h6.add (hy.mul hy)).le (by omega), (h7.add hp).le (by omega), (h8.add (hx.mul hp)).le (by omega), (h9.add (hy.mul hp)).le (by omega)⟩
  · show 0 ≤ a.1 + 1; omega
  · show a.1 + 1 ≤ _; omega
theorem bd_up {k : Nat} {a : Z9} (h : BdZ k a) : BdZ (k + 1) a := by
  obtain ⟨⟨h1, h1'⟩, h2, h3, h4, h5, h6, h7, h8, h9⟩ := h
  exact ⟨⟨h1, by omega⟩, h2.le (by omega), h3.le (by omega), h4.le (by omega), h5.le (by omega), h6.le (by omega), h7.le (by omega), h8.le (by omega), h9.le (by omega)⟩
/-- no sum of squares is below 0 -/
def PS (a : Z9) : Prop := ∀ u v w : Int, 0 ≤ u * u * a.2.2.2.1 + v * v * a.2.2.2.2.2.1 + w * w * a.1 + 2 * u * v * a.2.2.2.2.1 + 2 * u * w * a.2.1 + 2 * v * w * a.2.2.1
theorem sq_nn (a : Int) : 0 ≤ a * a := by
  rw [← Int.natAbs_mul_self]
  omega
theorem ps_inc {a : Z9} {x y : Int} (h : PS a) : PS (incZ a x y) := by
  intro u v w
  have h1 := h u v w
  have h2 := sq_nn (u * x + v * y + w)
  have e : u * u * (a.2.2.2.1 + x * x) + v * v * (a.2.2.2.2.2.1 + y * y) + w * w * (a.1 + 1) + 2 * u * v * (a.2.2.2.2.1 + x * y) + 2 * u * w * (a.2.1 + x) + 2 * v * w * (a.2.2.1 + y) = (u * u * a.2.2.2.1 + v * v * a.2.2.2.2.2.1 + w * w * a.1 + 2 * u * v * a.2.2.2.2.1 + 2 * u * w * a.2.1 + 2 * v * w * a.2.2.1) + (u * x + v * y + w) * (u * x + v * y + w) := by grind
  show 0 ≤ u * u * (a.2.2.2.1 + x * x) + v * v * (a.2.2.2.2.2.1 + y * y) + w * w * (a.1 + 1) + 2 * u * v * (a.2.2.2.2.1 + x * y) + 2 * u * w * (a.2.1 + x) + 2 * v * w * (a.2.2.1 + y)
  rw [e]
  omega
def GD (k : Nat) (a : Z9) : Prop := BdZ k a ∧ PS a
theorem gd_zero : GD 0 (0, 0, 0, 0, 0, 0, 0, 0, 0) := by
  refine ⟨⟨⟨by decide, by decide⟩, by unfold BB; decide, by unfold BB; decide, by unfold BB; decide, by unfold BB; decide, by unfold BB; decide, by unfold BB; decide, by unfold BB; decide, by unfold BB; decide⟩, fun u v w => ?_⟩
  simp
theorem gd_inc {k : Nat} {a : Z9} {x y : Int} (hx : BB x 40) (hy : BB y 40) (h : GD k a) : GD (k + 1) (incZ a x y) := ⟨bd_inc hx hy h.1, ps_inc h.2⟩
theorem gd_IZ {xs ys : Nat → Int32} {s : Int32} (hb : ∀ j, j < 10 → IB (xs j) ∧ IB (ys j)) : ∀ k, k ≤ 10 → GD k (IZ xs ys s k) := by
  intro k
  induction k with
  | zero => intro _; exact gd_zero
  | succ k ih =>
    intro h
    show GD (k + 1) (if bt s k = true then incZ (IZ xs ys s k) (xs k).toInt (ys k).toInt else IZ xs ys s k)
    have h1 := ih (by omega)
    cases bt s k
    · exact ⟨bd_up h1.1, h1.2⟩
    · exact gd_inc (hb k (by omega)).1.b (hb k (by omega)).2.b h1
theorem nn_of_mul {n d : Int} (hn : 0 < n) (h : 0 ≤ n * d) : 0 ≤ d := by
  rcases Int.lt_or_le d 0 with h1 | h1
  · have := Int.mul_neg_of_pos_of_neg hn h1
    omega
  · exact h1
theorem lin_zero {b c : Int} (hc : 0 ≤ c) (h : ∀ t : Int, 0 ≤ 2 * t * b + c) : b = 0 := by
  by_cases hb : b = 0
  · exact hb
  · exfalso
    have h1 := h (-(c + 1) * b)
    have e : 2 * (-(c + 1) * b) * b + c = c - 2 * ((c + 1) * (b * b)) := by grind
    rw [e] at h1
    have h2 := sq_nn b
    have h3 : b * b ≠ 0 := Int.mul_ne_zero hb hb
    have h4 : (c + 1) * 1 ≤ (c + 1) * (b * b) := Int.mul_le_mul_of_nonneg_left (by omega) (by omega)
    omega
theorem n0_zero {n sx sy sxx sxy syy : Int} (hn : n = 0) (hq : ∀ u v w : Int, 0 ≤ u * u * sxx + v * v * syy + w * w * n + 2 * u * v * sxy + 2 * u * w * sx + 2 * v * w * sy) : sx = 0 ∧ sy = 0 := by
  subst hn
  have hxx := hq 1 0 0
  have hyy := hq 0 1 0
  refine ⟨lin_zero (c := sxx) (by omega) (fun t => ?_), lin_zero (c := syy) (by omega) (fun t => ?_)⟩
  · have := hq 1 0 t
    have e : 1 * 1 * sxx + 0 * 0 * syy + t * t * 0 + 2 * 1 * 0 * sxy + 2 * 1 * t * sx + 2 * 0 * t * sy = 2 * t * sx + sxx := by grind
    rw [e] at this
    exact this
  · have := hq 0 1 t
    have e : 0 * 0 * sxx + 1 * 1 * syy + t * t * 0 + 2 * 0 * 1 * sxy + 2 * 0 * t * sx + 2 * 1 * t * sy = 2 * t * sy + syy := by grind
    rw [e] at this
    exact this
/-- Cauchy and Schwarz: the determinant isn't below 0; it is 0 if there are no samples -/
theorem by_nn {k : Nat} {a : Z9} (h : GD k a) : 0 ≤ zBY a ∧ (¬ zBY a = 0 → 0 < a.1) := by
  obtain ⟨⟨⟨hn, -⟩, -⟩, hp⟩ := h
  obtain ⟨n, sx, sy, sxx, sxy, syy, sp, spx, spy⟩ := a
  dsimp only at hn
  have hq : ∀ u v w : Int, 0 ≤ u * u * sxx + v * v * syy + w * w * n + 2 * u * v * sxy + 2 * u * w * sx + 2 * v * w * sy := hp
  show 0 ≤ zDet sxx sxy sx sxy syy sy sx sy n ∧ (¬ zDet sxx sxy sx sxy syy sy sx sy n = 0 → 0 < n)
  by_cases h0 : n = 0
  · obtain ⟨e1, e2⟩ := n0_zero h0 hq
    have e : zDet sxx sxy sx sxy syy sy sx sy n = 0 := by
      unfold zDet
      rw [e1, e2, h0]
      simp
    rw [e]
    exact ⟨Int.le_refl 0, fun h => absurd rfl h⟩
  · have hn0 : 0 < n := by omega
    refine ⟨?_, fun _ => hn0⟩
    have hP : ∀ al be : Int, 0 ≤ al * al * (n * sxx - sx * sx) + 2 * al * be * (n * sxy - sx * sy) + be * be * (n * syy - sy * sy) := by
      intro al be
      refine nn_of_mul hn0 ?_
      have := hq (n * al) (n * be) (-(al * sx + be * sy))
      have e : (n * al) * (n * al) * sxx + (n * be) * (n * be) * syy + (-(al * sx + be * sy)) * (-(al * sx + be * sy)) * n + 2 * (n * al) * (n * be) * sxy + 2 * (n * al) * (-(al * sx + be * sy)) * sx + 2 * (n * be) * (-(al * sx + be * sy)) * sy = n * (al * al * (n * sxx - sx * sx) + 2 * al * be * (n * sxy - sx * sy) + be * be * (n * syy - sy * sy)) := by grind
      rw [e] at this
      exact this
    generalize hxx : n * sxx - sx * sx = xx at hP
    generalize hxy : n * sxy - sx * sy = xy at hP
    generalize hyy : n * syy - sy * sy = yy at hP
    have hid := id_sp n sx sy sxx sxy syy
    rw [hxx, hxy, hyy] at hid
    refine nn_of_mul hn0 ?_
    rw [← hid]
    have p1 := hP 1 0
    have p2 := hP 0 1
    have p1 : 0 ≤ xx := by
      have e : 1 * 1 * xx + 2 * 1 * 0 * xy + 0 * 0 * yy = xx := by grind
      rw [e] at p1; exact p1
    have p2 : 0 ≤ yy := by
      have e : 0 * 0 * xx + 2 * 0 * 1 * xy + 1 * 1 * yy = yy := by grind
      rw [e] at p2; exact p2
    by_cases hz : xx = 0
    · have hxy0 : xy = 0 := lin_zero p2 (fun t => by
        have := hP t 1
        have e : t * t * xx + 2 * t * 1 * xy + 1 * 1 * yy = 2 * t * xy + yy := by rw [hz]; grind
        rw [e] at this
        exact this)
      rw [hz, hxy0]
      simp
    · have := hP (-xy) xx
      have e : (-xy) * (-xy) * xx + 2 * (-xy) * xx * xy + xx * xx * yy = xx * (xx * yy - xy * xy) := by grind
      rw [e] at this
      exact nn_of_mul (by omega) this
-- bounds of all numbers that are told
theorem bb_det {p0 p1 p2 p3 p4 p5 p6 p7 p8 : Int} {A0 A1 A2 A3 A4 A5 A6 A7 A8 : Nat} (h0 : BB p0 A0) (h1 : BB p1 A1) (h2 : BB p2 A2) (h3 : BB p3 A3) (h4 : BB p4 A4) (h5 : BB p5 A5) (h6 : BB p6 A6) (h7 : BB p7 A7) (h8 : BB p8 A8) : BB (zDet p0 p1 p2 p3 p4 p5 p6 p7 p8) ((A0 * (A4 * A8 + A5 * A7) + A1 * (A3 * A8 + A5 * A6)) + A2 * (A3 * A7 + A4 * A6)) :=
  ((h0.mul ((h4.mul h8).sub (h5.mul h7))).sub (h1.mul ((h3.mul h8).sub (h5.mul h6)))).add (h2.mul ((h3.mul h7).sub (h4.mul h6)))
theorem bd_n {a : Z9} (h : GD 11 a) : BB a.1 11 := by
  have := h.1.1
  unfold BB
  omega
theorem bd_BY {a : Z9} (h : GD 11 a) : BB (zBY a) 20444160000 := by
  have hn := bd_n h
  obtain ⟨⟨-, h2, h3, h4, h5, h6, h7, h8, h9⟩, -⟩ := h
  exact (bb_det h4 h5 h2 h5 h6 h3 h2 h3 hn).le (Nat.le_of_ble_eq_true rfl)
theorem bd_A {a : Z9} (h : GD 11 a) : BB (zA a) 1635532800000 := by
  have hn := bd_n h
  obtain ⟨⟨-, h2, h3, h4, h5, h6, h7, h8, h9⟩, -⟩ := h
  exact (bb_det h8 h5 h2 h9 h6 h3 h7 h3 hn).le (Nat.le_of_ble_eq_true rfl)
theorem bd_B {a : Z9} (h : GD 11 a) : BB (zB a) 1635532800000 := by
  have hn := bd_n h
  obtain ⟨⟨-, h2, h3, h4, h5, h6, h7, h8, h9⟩, -⟩ := h
  exact (bb_det h4 h8 h2 h5 h9 h3 h2 h7 hn).le (Nat.le_of_ble_eq_true rfl)
theorem bd_C {a : Z9} (h : GD 11 a) : BB (zC a) 65421312000000 := by
  have hn := bd_n h
  obtain ⟨⟨-, h2, h3, h4, h5, h6, h7, h8, h9⟩, -⟩ := h
  exact (bb_det h4 h5 h8 h5 h6 h9 h2 h3 h7).le (Nat.le_of_ble_eq_true rfl)
abbrev SMB : Nat := 4611686018427387904
abbrev SM (x : Int) : Prop := BB x SMB
theorem o_int {x : Int} (h : SM x) : (o64 x).toInt = x := by
  have h : x.natAbs ≤ 4611686018427387904 := h
  exact Int64.toInt_ofInt_of_le (by omega) (by omega)
theorem cmp_o {x y : Int} (hx : SM x) (hy : SM y) : lg_cmp (o64 x) (o64 y) = if y < x then 1 else if x = y then 0 else -1 := by
  unfold lg_cmp
  have e1 : (o64 x > o64 y) ↔ y < x := by
    show o64 y < o64 x ↔ _
    rw [Int64.lt_iff_toInt_lt, o_int hx, o_int hy]
  have e2 : (o64 x = o64 y) ↔ x = y := by
    rw [← Int64.toInt_inj, o_int hx, o_int hy]
  simp only [e1, e2]
theorem cmp_scale {n x y : Int} (hn : 0 < n) (h1 : SM (n * x)) (h2 : SM (n * y)) (h3 : SM x) (h4 : SM y) : lg_cmp (o64 (n * x)) (o64 (n * y)) = lg_cmp (o64 x) (o64 y) := by
  rw [cmp_o h1 h2, cmp_o h3 h4]
  have e1 : (n * y < n * x) ↔ y < x := Int.mul_lt_mul_left hn
  have e2 : (n * x = n * y) ↔ x = y := Int.mul_eq_mul_left_iff (by omega)
  simp only [e1, e2]
theorem eight_eq {P Q P' Q' : Int64} (h1 : lg_cmp Q 0 = lg_cmp Q' 0) (h2 : lg_cmp P Q = lg_cmp P' Q') (h3 : lg_cmp P 0 = lg_cmp P' 0) (h4 : lg_cmp Q P = lg_cmp Q' P') (h5 : lg_cmp Q (-P) = lg_cmp Q' (-P')) (h6 : lg_cmp (-P) Q = lg_cmp (-P') Q') (h7 : lg_cmp (-P) (-Q) = lg_cmp (-P') (-Q')) (h8 : lg_cmp (-Q) (-P) = lg_cmp (-Q') (-P')) (h9 : lg_cmp (-Q) P = lg_cmp (-Q') P') (h10 : lg_cmp P (-Q) = lg_cmp P' (-Q')) : F_X0_eighthTowards P Q = F_X3_eighthOf P' Q' := by
  unfold F_X0_eighthTowards L_X0_eighthTowards_14 L_X0_eighthTowards_28 L_X0_eighthTowards_43 L_X0_eighthTowards_58 L_X0_eighthTowards_74 L_X0_eighthTowards_90 L_X0_eighthTowards_106
  unfold F_X3_eighthOf L_X3_eighthOf_14 L_X3_eighthOf_28 L_X3_eighthOf_43 L_X3_eighthOf_58 L_X3_eighthOf_74 L_X3_eighthOf_90 L_X3_eighthOf_106
  rw [h1, h2, h3, h4, h5, h6, h7, h8, h9, h10]
theorem eight_scale {n u v : Int} (hn : 0 < n) (hu : SM (n * u)) (hv : SM (n * v)) (hu1 : SM u) (hv1 : SM v) : F_X0_eighthTowards (o64 (n * u)) (o64 (n * v)) = F_X3_eighthOf (o64 u) (o64 v) := by
  have z1 : (0 : Int64) = o64 (n * 0) := by rw [Int.mul_zero]; rfl
  have z2 : (0 : Int64) = o64 0 := rfl
  have nu : -o64 (n * u) = o64 (n * (-u)) := by rw [Int.mul_neg]; exact (Int64.ofInt_neg _).symm
  have nv : -o64 (n * v) = o64 (n * (-v)) := by rw [Int.mul_neg]; exact (Int64.ofInt_neg _).symm
  have nu1 : -o64 u = o64 (-u) := (Int64.ofInt_neg _).symm
  have nv1 : -o64 v = o64 (-v) := (Int64.ofInt_neg _).symm
  have s0 : SM (n * 0) := by rw [Int.mul_zero]; exact Nat.zero_le _
  have s0' : SM 0 := Nat.zero_le _
  have hun : SM (n * (-u)) := by rw [Int.mul_neg]; exact hu.neg
  have hvn : SM (n * (-v)) := by rw [Int.mul_neg]; exact hv.neg
  have hun1 := hu1.neg
  have hvn1 := hv1.neg
  apply eight_eq
  · exact ((congrArg (lg_cmp (o64 (n * v))) z1).trans (cmp_scale hn hv s0 hv1 s0')).trans (congrArg (lg_cmp (o64 v)) z2.symm)
  · exact cmp_scale hn hu hv hu1 hv1
  · exact ((congrArg (lg_cmp (o64 (n * u))) z1).trans (cmp_scale hn hu s0 hu1 s0')).trans (congrArg (lg_cmp (o64 u)) z2.symm)
  · exact cmp_scale hn hv hu hv1 hu1
  · rw [nu, nu1]; exact cmp_scale hn hv hun hv1 hun1
  · rw [nu, nu1]; exact cmp_scale hn hun hv hun1 hv1
  · rw [nu, nv, nu1, nv1]; exact cmp_scale hn hun hvn hun1 hvn1
  · rw [nu, nv, nu1, nv1]; exact cmp_scale hn hvn hun hvn1 hun1
  · rw [nv, nv1]; exact cmp_scale hn hvn hu hvn1 hu1
  · rw [nv, nv1]; exact cmp_scale hn hu hvn hu1 hvn1
