/-! small rows on numbers for loops and indices -/
theorem vp_of {i : Int32} {k n : Nat} (hi : i.toInt = (k : Int)) (h : k < n) : vp_in i n := vp_in_iff.mpr ⟨by omega, by omega⟩
theorem i_ltN {i N : Int32} {k : Nat} (hi : i.toInt = (k : Int)) (c : ¬ N ≤ i) : (k : Int) < N.toInt := by
  rw [Int32.le_iff_toInt_le] at c
  omega
theorem i_lt10 {i : Int32} {k : Nat} (hi : i.toInt = (k : Int)) (c : ¬ (10 : Int32) ≤ i) : k < 10 := by
  have h := i_ltN hi c
  have e : (10 : Int32).toInt = 10 := by decide
  omega
theorem i_lt23 {i : Int32} {k : Nat} (hi : i.toInt = (k : Int)) (c : ¬ (23 : Int32) ≤ i) : k < 23 := by
  have h := i_ltN hi c
  have e : (23 : Int32).toInt = 23 := by decide
  omega
theorem i_lt1024 {i : Int32} {k : Nat} (hi : i.toInt = (k : Int)) (c : ¬ (1024 : Int32) ≤ i) : k < 1024 := by
  have h := i_ltN hi c
  have e : (1024 : Int32).toInt = 1024 := by decide
  omega
theorem i_add {a b : Int32} (h1 : -2147483648 ≤ a.toInt + b.toInt) (h2 : a.toInt + b.toInt < 2147483648) : (a + b).toInt = a.toInt + b.toInt := by
  rw [Int32.toInt_add]
  exact Int.bmod_eq_of_le (by omega) (by omega)
theorem i_succ {i : Int32} {k : Nat} (hi : i.toInt = (k : Int)) (hk : k < 1073741824) : (i + 1).toInt = ((k + 1 : Nat) : Int) := by
  have e : (1 : Int32).toInt = 1 := by decide
  rw [i_add (by omega) (by omega), e, hi]
  omega
theorem i_lt100 {i : Int32} {k : Nat} (hi : i.toInt = (k : Int)) (c : ¬ (100 : Int32) ≤ i) : k < 100 := by
  have h := i_ltN hi c
  have e : (100 : Int32).toInt = 100 := by decide
  omega
theorem i_succ40 {i : Int32} {k : Nat} (hi : i.toInt = (k : Int) - 40) (hk : k < 1073741824) : (i + 1).toInt = ((k + 1 : Nat) : Int) - 40 := by
  have e : (1 : Int32).toInt = 1 := by decide
  rw [i_add (by omega) (by omega), e, hi]
  omega
theorem i_le40 {i : Int32} {k : Nat} (hi : i.toInt = (k : Int) - 40) (c : ¬ (40 : Int32) < i) : k + 1 ≤ 81 := by
  rw [Int32.lt_iff_toInt_lt] at c
  have e : (40 : Int32).toInt = 40 := by decide
  omega
theorem vp_of2 {i : Int32} (h0 : ¬ i < 0) (h1 : i < 10) : vp_in i 10 := by
  rw [Int32.lt_iff_toInt_lt] at h0 h1
  have e : (10 : Int32).toInt = 10 := by decide
  have e0 : (0 : Int32).toInt = 0 := by decide
  exact vp_in_iff.mpr ⟨by omega, by omega⟩
theorem vp_of3 {i : Int32} (h0 : ¬ i < 0) (h1 : ¬ (10 : Int32) ≤ i) : vp_in i 10 := by
  rw [Int32.lt_iff_toInt_lt] at h0
  rw [Int32.le_iff_toInt_le] at h1
  have e : (10 : Int32).toInt = 10 := by decide
  have e0 : (0 : Int32).toInt = 0 := by decide
  exact vp_in_iff.mpr ⟨by omega, by omega⟩
theorem lcz {x : Int64} (h : ¬ lg_cmp x 0 = 0) : ¬ x = 0 := fun e => h (by rw [e]; decide)
theorem lgz {x : Int64} (h : 0 < lg_cmp x 0) : ¬ x = 0 := fun e => by rw [e] at h; exact absurd h (by decide)
theorem lgz2 {x : Int64} (h : ¬ lg_cmp x 0 ≤ 0) : ¬ x = 0 := fun e => by rw [e] at h; exact absurd (by decide) h
theorem and63_le (x : Int32) : ((x &&& 63) - 3).toInt ≤ 60 := by
  have h : (x &&& 63).toInt = x.toInt % 2 ^ 6 := Jvm.Kit.i32_mask x 63 (by decide) (by decide)
  have e : (-3 : Int32).toInt = -3 := by decide
  have hs : (x &&& 63) - 3 = (x &&& 63) + (-3) := Int32.sub_eq_add_neg _ _
  rw [hs, i_add (by omega) (by omega)]
  omega
/-! the reference's number of samples -/
def MB (st : Nat → Int32) : Prop := 0 ≤ (st 20).toInt ∧ (st 20).toInt ≤ 10
theorem i_ltM {st : Nat → Int32} {i : Int32} {k : Nat} (hm : MB st) (hi : i.toInt = (k : Int)) (c : ¬ st 20 ≤ i) : k < 10 := by
  have h := i_ltN hi c
  have := hm.2
  omega
theorem i_lt9 {i : Int32} {k : Nat} (hi : i.toInt = (k : Int)) (hk : k < 10) : i.toInt < 10 := by omega
theorem vp_x {i : Int32} {k : Nat} (hi : i.toInt = (k : Int)) (hk : k < 10) : vp_in (0 + i) 23 := by
  have e : (0 : Int32).toInt = 0 := by decide
  refine vp_in_iff.mpr ?_
  rw [i_add (by omega) (by omega), e]
  omega
theorem vp_y {i : Int32} {k : Nat} (hi : i.toInt = (k : Int)) (hk : k < 10) : vp_in (10 + i) 23 := by
  have e : (10 : Int32).toInt = 10 := by decide
  refine vp_in_iff.mpr ?_
  rw [i_add (by omega) (by omega), e]
  omega
theorem vp_xw {i : Int32} (c : ¬ i < 0) (h : i.toInt < 10) : vp_in (0 + i) 23 := by
  rw [Int32.lt_iff_toInt_lt] at c
  have e : (0 : Int32).toInt = 0 := by decide
  exact vp_x (k := i.toInt.toNat) (by omega) (by omega)
theorem vp_yw {i : Int32} (c : ¬ i < 0) (h : i.toInt < 10) : vp_in (10 + i) 23 := by
  rw [Int32.lt_iff_toInt_lt] at c
  have e : (0 : Int32).toInt = 0 := by decide
  exact vp_y (k := i.toInt.toNat) (by omega) (by omega)
theorem vp_n9 {st : Nat → Int32} (hm : MB st) (c : ¬ st 20 = 10) : (st 20).toInt < 10 := by
  obtain ⟨h1, h2⟩ := hm
  have : ¬ (st 20).toInt = 10 := fun h => c (Int32.toInt_inj.mp (by rw [h]; decide))
  omega
theorem vp_x9 {st : Nat → Int32} (hm : MB st) (c : ¬ st 20 = 10) : vp_in (0 + st 20) 23 := vp_x (k := (st 20).toInt.toNat) (by have := hm.1; omega) (by have := vp_n9 hm c; omega)
theorem vp_y9 {st : Nat → Int32} (hm : MB st) (c : ¬ st 20 = 10) : vp_in (10 + st 20) 23 := vp_y (k := (st 20).toInt.toNat) (by have := hm.1; omega) (by have := vp_n9 hm c; omega)
theorem MB_21 {st : Nat → Int32} {v : Int32} (hm : MB st) : MB (upd st 21 v) := by
  have e : (upd st 21 v) 20 = st 20 := by simp [upd]
  unfold MB
  rw [e]
  exact hm
theorem lrem_mod (x y : Int64) : x - x / y * y = x % y := by
  apply Int64.toInt_inj.mp
  have h1 := Int64.le_toInt (x % y)
  have h2 := Int64.toInt_lt (x % y)
  rw [Int64.toInt_sub, Int64.toInt_mul, Int64.toInt_div, Int.bmod_mul_bmod, Int.sub_bmod_bmod, Int.mul_comm (x.toInt.tdiv y.toInt), ← Int.tmod_def, ← Int64.toInt_mod]
  exact Int.bmod_eq_of_le_mul_two (by omega) (by omega)
theorem vp_lit {i : Int32} {n : Nat} (h : 0 ≤ i.toInt ∧ i.toInt < (n : Int)) : vp_in i n := vp_in_iff.mpr h
