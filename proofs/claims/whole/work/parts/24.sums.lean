/-! the nine sums of a set of samples, the same on both sides; in whole numbers -/
abbrev N9 : Type := Int64 × Int64 × Int64 × Int64 × Int64 × Int64 × Int64 × Int64 × Int64
abbrev Z9 : Type := Int × Int × Int × Int × Int × Int × Int × Int × Int
def nine (r : Rd) : N9 := (r.1, r.2.1, r.2.2.1, r.2.2.2.1, r.2.2.2.2.1, r.2.2.2.2.2.1, r.2.2.2.2.2.2.1, r.2.2.2.2.2.2.2.1, r.2.2.2.2.2.2.2.2.1)
def zero9 : N9 := (0, 0, 0, 0, 0, 0, 0, 0, 0)
def inc9 (a : N9) (x y : Int32) : N9 := (a.1 + 1, a.2.1 + x.toInt64, a.2.2.1 + y.toInt64, a.2.2.2.1 + (x * x).toInt64, a.2.2.2.2.1 + (x * y).toInt64, a.2.2.2.2.2.1 + (y * y).toInt64, a.2.2.2.2.2.2.1 + (x * x + y * y).toInt64, a.2.2.2.2.2.2.2.1 + (x * (x * x + y * y)).toInt64, a.2.2.2.2.2.2.2.2 + (y * (x * x + y * y)).toInt64)
theorem nine_inc (q : Rd) (x y : Int32) : nine (F_X0_include q x y) = inc9 (nine q) x y := rfl
theorem nine_one (q : Rd) (x y : Int32) : nine (F_X3_sumOne q x y) = inc9 (nine q) x y := by
  unfold F_X3_sumOne F_X3_power nine inc9
  rw [Int32.mul_comm (x * x + y * y) x, Int32.mul_comm (x * x + y * y) y]
def S9 (xs ys : Nat → Int32) (s : Int32) : Nat → N9
  | 0 => zero9
  | k + 1 => if bt s k = true then inc9 (S9 xs ys s k) (xs k) (ys k) else S9 xs ys s k
theorem S9_cong {xs ys xs' ys' : Nat → Int32} {s : Int32} : ∀ {n : Nat}, (∀ j, j < n → xs j = xs' j ∧ ys j = ys' j) → S9 xs ys s n = S9 xs' ys' s n := by
  intro n
  induction n with
  | zero => intro _; rfl
  | succ n ih =>
    intro h
    show (if bt s n = true then inc9 (S9 xs ys s n) (xs n) (ys n) else S9 xs ys s n) = (if bt s n = true then inc9 (S9 xs' ys' s n) (xs' n) (ys' n) else S9 xs' ys' s n)
    rw [ih (fun j hj => h j (by omega)), (h n (by omega)).1, (h n (by omega)).2]
theorem S9_more {xs ys : Nat → Int32} {s : Int32} {M : Nat} : ∀ (c : Nat), (∀ j, M ≤ j → j < M + c → bt s j = false) → S9 xs ys s (M + c) = S9 xs ys s M := by
  intro c
  induction c with
  | zero => intro _; rfl
  | succ c ih =>
    intro h
    show (if bt s (M + c) = true then _ else S9 xs ys s (M + c)) = _
    rw [if_neg (by rw [h (M + c) (by omega) (by omega)]; decide)]
    exact ih (fun j h1 h2 => h j h1 (by omega))
theorem q_isIn (s : Int32) {k : Nat} (hk : k < 32) : F_X2_isIn s (nI k) = if bt s k = true then 1 else 0 := by
  unfold F_X2_isIn
  cases hb : bt s k
  · rw [if_neg (fun h => by have := (q_bit1 s hk).mp h; rw [hb] at this; cases this)]; rfl
  · rw [if_pos ((q_bit1 s hk).mpr hb)]; rfl
theorem isIn0 (s : Int32) {k : Nat} (hk : k < 32) (h : bt s k = false) : F_X2_isIn s (nI k) = 0 := by rw [q_isIn s hk, h]; rfl
theorem isIn1 (s : Int32) {k : Nat} (hk : k < 32) (h : bt s k = true) : ¬ F_X2_isIn s (nI k) = 0 := by rw [q_isIn s hk, h]; decide
theorem sumUp_L (now : Sm) (s : Int32) : ∀ (c k : Nat) (q : Rd), k + c = 10 → nine q = S9 now.1 now.2.1 s k → nine (L_X2_sumUp_6 now s (c + 1) (nI k) q) = S9 now.1 now.2.1 s 10 := by
  intro c
  induction c with
  | zero =>
    intro k q h hq
    have hk : k = 10 := by omega
    subst hk
    have e : L_X2_sumUp_6 now s (0 + 1) (nI 10) q = q := if_pos (by decide)
    rw [e, hq]
  | succ c ih =>
    intro k q h hq
    have hn : ¬ (10 : Int32) ≤ nI k := nI_ge (a := k) (b := 10) (by omega) (by decide)
    cases hb : bt s k
    · have e : L_X2_sumUp_6 now s (c + 1 + 1) (nI k) q = L_X2_sumUp_6 now s (c + 1) (nI k + 1) q := (if_neg hn).trans (if_pos (isIn0 s (by omega) hb))
      rw [e, nI_1]
      refine ih (k + 1) q (by omega) ?_
      show nine q = if bt s k = true then _ else S9 now.1 now.2.1 s k
      rw [if_neg (by rw [hb]; decide)]
      exact hq
    · have e : L_X2_sumUp_6 now s (c + 1 + 1) (nI k) q = L_X2_sumUp_6 now s (c + 1) (nI k + 1) (F_X0_include q (now.1 (nI k).toNatClampNeg) (now.2.1 (nI k).toNatClampNeg)) := (if_neg hn).trans (if_neg (isIn1 s (by omega) hb))
      rw [e, nI_1, nI_clamp (by omega)]
      refine ih (k + 1) _ (by omega) ?_
      show nine (F_X0_include q (now.1 k) (now.2.1 k)) = if bt s k = true then inc9 (S9 now.1 now.2.1 s k) (now.1 k) (now.2.1 k) else _
      rw [if_pos hb, nine_inc, hq]
theorem sumUp_9 (now : Sm) (r : Rd) (s : Int32) : nine (F_X2_sumUp now r s) = S9 now.1 now.2.1 s 10 := sumUp_L now s 10 0 (F_X0_empty r) rfl rfl
theorem c0_nI {st : Nat → Int32} {k : Nat} (hk : k < 10) : st (0 + nI k).toNatClampNeg = st (0 + k) := by
  have e : (0 : Int32) + nI k = nI (0 + k) := nI_add 0 k
  rw [e, nI_clamp (by omega)]
theorem c10_nI {st : Nat → Int32} {k : Nat} (hk : k < 10) : st (10 + nI k).toNatClampNeg = st (10 + k) := by
  have e : (10 : Int32) + nI k = nI (10 + k) := nI_add 10 k
  rw [e, nI_clamp (by omega)]
abbrev sX (st : Nat → Int32) : Nat → Int32 := fun j => st (0 + j)
abbrev sY (st : Nat → Int32) : Nat → Int32 := fun j => st (10 + j)
theorem sumSet_L {st : Nat → Int32} {s : Int32} {M : Nat} (hM : M ≤ 10) (hs : st 20 = nI M) : ∀ (c k : Nat) (q : Rd), k + c = 10 → k ≤ M → nine q = S9 (sX st) (sY st) s k → nine (L_X3_sumSet_47 st s (c + 1) (nI k) q) = S9 (sX st) (sY st) s M := by
  intro c
  induction c with
  | zero =>
    intro k q h hk hq
    have hk2 : k = M := by omega
    have e : L_X3_sumSet_47 st s (0 + 1) (nI k) q = q := if_pos (by rw [hs]; exact nI_le (by omega) (by omega))
    rw [e, hq, hk2]
  | succ c ih =>
    intro k q h hk hq
    by_cases hk2 : k = M
    · have e : L_X3_sumSet_47 st s (c + 1 + 1) (nI k) q = q := if_pos (by rw [hs, hk2]; exact nI_le (Nat.le_refl _) (by omega))
      rw [e, hq, hk2]
    · have hn : ¬ st 20 ≤ nI k := by rw [hs]; exact nI_ge (by omega) (by omega)
      cases hb : bt s k
      · have e : L_X3_sumSet_47 st s (c + 1 + 1) (nI k) q = L_X3_sumSet_47 st s (c + 1) (nI k + 1) q := (if_neg hn).trans (if_neg (fun h => by have := (q_bit1 s (show k < 32 by omega)).mp h; rw [hb] at this; cases this))
        rw [e, nI_1]
        refine ih (k + 1) q (by omega) (by omega) ?_
        show nine q = if bt s k = true then _ else S9 (sX st) (sY st) s k
        rw [if_neg (by rw [hb]; decide)]
        exact hq
      · have e : L_X3_sumSet_47 st s (c + 1 + 1) (nI k) q = L_X3_sumSet_47 st s (c + 1) (nI k + 1) (F_X3_sumOne q (st (0 + nI k).toNatClampNeg) (st (10 + nI k).toNatClampNeg)) := (if_neg hn).trans (if_pos ((q_bit1 s (show k < 32 by omega)).mpr hb))
        rw [e, nI_1, c0_nI (st := st) (k := k) (by omega), c10_nI (st := st) (k := k) (by omega)]
        refine ih (k + 1) _ (by omega) (by omega) ?_
        show _ = if bt s k = true then inc9 (S9 (sX st) (sY st) s k) (sX st k) (sY st k) else _
        rw [if_pos hb, nine_one, hq]
theorem sumSet_9 {st : Nat → Int32} {M : Nat} (hM : M ≤ 10) (hs : st 20 = nI M) (md : Rd) (s : Int32) : nine (F_X3_sumSet st md s) = S9 (sX st) (sY st) s M := sumSet_L hM hs 10 0 _ rfl (Nat.zero_le _) rfl
-- whole numbers
abbrev o64 (n : Int) : Int64 := Int64.ofInt n
def om (a : Z9) : N9 := (o64 a.1, o64 a.2.1, o64 a.2.2.1, o64 a.2.2.2.1, o64 a.2.2.2.2.1, o64 a.2.2.2.2.2.1, o64 a.2.2.2.2.2.2.1, o64 a.2.2.2.2.2.2.2.1, o64 a.2.2.2.2.2.2.2.2)
def incZ (a : Z9) (x y : Int) : Z9 := (a.1 + 1, a.2.1 + x, a.2.2.1 + y, a.2.2.2.1 + x * x, a.2.2.2.2.1 + x * y, a.2.2.2.2.2.1 + y * y, a.2.2.2.2.2.2.1 + (x * x + y * y), a.2.2.2.2.2.2.2.1 + x * (x * x + y * y), a.2.2.2.2.2.2.2.2 + y * (x * x + y * y))
/-- a number's size -/
def BB (x : Int) (A : Nat) : Prop := x.natAbs ≤ A
theorem BB.mul {x y : Int} {A B : Nat} (h1 : BB x A) (h2 : BB y B) : BB (x * y) (A * B) := by
  unfold BB at *
  rw [Int.natAbs_mul]
  exact Nat.mul_le_mul h1 h2
theorem BB.add {x y : Int} {A B : Nat} (h1 : BB x A) (h2 : BB y B) : BB (x + y) (A + B) := by
  unfold BB at *
  omega
theorem BB.sub {x y : Int} {A B : Nat} (h1 : BB x A) (h2 : BB y B) : BB (x - y) (A + B) := by
  unfold BB at *
  omega
theorem BB.neg {x : Int} {A : Nat} (h1 : BB x A) : BB (-x) A := by
  unfold BB at *
  omega
theorem BB.le {x : Int} {A B : Nat} (h1 : BB x A) (h : A ≤ B) : BB x B := Nat.le_trans h1 h
def IB (x : Int32) : Prop := -40 ≤ x.toInt ∧ x.toInt ≤ 40
theorem IB.b {x : Int32} (h : IB x) : BB x.toInt 40 := by
  unfold BB; unfold IB at h; omega
theorem imul {x y : Int32} {A B : Nat} (h1 : BB x.toInt A) (h2 : BB y.toInt B) (h : A * B < 2147483648) : (x * y).toInt = x.toInt * y.toInt := by
  have h3 := h1.mul h2
  unfold BB at h3
  rw [Int32.toInt_mul]
  exact Int.bmod_eq_of_le (by omega) (by omega)
theorem ito (x : Int32) : x.toInt64 = o64 x.toInt := rfl
theorem ipow {x y : Int32} (hx : IB x) (hy : IB y) : (x * x + y * y).toInt = x.toInt * x.toInt + y.toInt * y.toInt := by
  have h1 := hx.b.mul hx.b
  have h2 := hy.b.mul hy.b
  unfold BB at h1 h2
  rw [i_add, imul hx.b hx.b (by decide), imul hy.b hy.b (by decide)]
  · rw [imul hx.b hx.b (by decide), imul hy.b hy.b (by decide)]; omega
  · rw [imul hx.b hx.b (by decide), imul hy.b hy.b (by decide)]; omega
theorem ipow_b {x y : Int32} (hx : IB x) (hy : IB y) : BB (x * x + y * y).toInt 3200 := by
  rw [ipow hx hy]
  exact (hx.b.mul hx.b).add (hy.b.mul hy.b)
theorem inc_om {a : Z9} {x y : Int32} (hx : IB x) (hy : IB y) : inc9 (om a) x y = om (incZ a x.toInt y.toInt) := by
  have e1 : (x * x).toInt64 = o64 (x.toInt * x.toInt) := by rw [ito, imul hx.b hx.b (by decide)]
  have e2 : (x * y).toInt64 = o64 (x.toInt * y.toInt) := by rw [ito, imul hx.b hy.b (by decide)]
  have e3 : (y * y).toInt64 = o64 (y.toInt * y.toInt) := by rw [ito, imul hy.b hy.b (by decide)]
  have e4 : (x * x + y * y).toInt64 = o64 (x.toInt * x.toInt + y.toInt * y.toInt) := by rw [ito, ipow hx hy]
  have e5 : (x * (x * x + y * y)).toInt64 = o64 (x.toInt * (x.toInt * x.toInt + y.toInt * y.toInt)) := by rw [ito, imul hx.b (ipow_b hx hy) (by decide), ipow hx hy]
  have e6 : (y * (x * x + y * y)).toInt64 = o64 (y.toInt * (x.toInt * x.toInt + y.toInt * y.toInt)) := by rw [ito, imul hy.b (ipow_b hx hy) (by decide), ipow hx hy]
  unfold inc9 incZ om
  rw [e1, e2, e3, e4, e5, e6, ito x, ito y]
  unfold o64
  simp only [Int64.ofInt_add]
  rfl
def IZ (xs ys : Nat → Int32) (s : Int32) : Nat → Z9
  | 0 => (0, 0, 0, 0, 0, 0, 0, 0, 0)
  | k + 1 => if bt s k = true then incZ (IZ xs ys s k) (xs k).toInt (ys k).toInt else IZ xs ys s k
theorem S9_om {xs ys : Nat → Int32} {s : Int32} (hb : ∀ j, j < 10 → IB (xs j) ∧ IB (ys j)) : ∀ k, k ≤ 10 → S9 xs ys s k = om (IZ xs ys s k) := by
  intro k
  induction k with
  | zero => intro _; rfl
  | succ k ih =>
    intro h
    show (if bt s k = true then inc9 (S9 xs ys s k) (xs k) (ys k) else S9 xs ys s k) = om (if bt s k = true then incZ (IZ xs ys s k) (xs k).toInt (ys k).toInt else IZ xs ys s k)
    rw [ih (by omega)]
    cases bt s k
    · rfl
    · rw [if_pos rfl, if_pos rfl, inc_om (hb k (by omega)).1 (hb k (by omega)).2]
