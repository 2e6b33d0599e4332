/-! what ties the class's state to the reference's -/
def SR (s : Sm) (a : Nat → Int32) (o : Nat) : Prop :=
  (∀ j : Nat, j < 10 → s.1 j = a (o + j) ∧ s.2.1 j = a (o + (10 + j)) ∧ IB (s.1 j) ∧ IB (s.2.1 j)) ∧
  s.2.2.1 = a (o + 20) ∧ s.2.2.2.1 = a (o + 21) ∧ s.2.2.2.2 = a (o + 22) ∧
  (0 ≤ s.2.2.1.toInt ∧ s.2.2.1.toInt ≤ 10) ∧ (∀ j : Nat, s.2.2.1.toInt ≤ (j : Int) → j < 32 → bt s.2.2.2.1 j = false) ∧ (1 ≤ s.2.2.2.2.toInt ∧ s.2.2.2.2.toInt ≤ 8)
def Rel (now im0 im1 : Sm) (kp : Int32) (st im kt : Nat → Int32) : Prop :=
  SR now st 0 ∧ (¬ kt 0 = 0 → SR im0 im 0) ∧ (¬ kt 1 = 0 → SR im1 im 23) ∧ kp = (if kt 0 = 0 then 0 else 1) + (if kt 1 = 0 then 0 else 2)
theorem rel_mb {now im0 im1 : Sm} {kp : Int32} {st im kt : Nat → Int32} (h : Rel now im0 im1 kp st im kt) : MB st := by
  obtain ⟨⟨-, h1, -, -, h2, -⟩, -⟩ := h
  rw [h1] at h2
  exact h2
theorem rel_init : Rel (fun _ => 0, fun _ => 0, 0, 0, 5) (fun _ => 0, fun _ => 0, 0, 0, 5) (fun _ => 0, fun _ => 0, 0, 0, 5) 0 (upd (fun _ => 0) 22 5) (fun _ => 0) (fun _ => 0) := by
  have hib : IB 0 := by unfold IB; decide
  refine ⟨⟨fun j hj => ⟨?_, ?_, hib, hib⟩, ?_, ?_, ?_, by decide, fun j _ _ => b_0 j, by decide⟩, fun h => absurd rfl h, fun h => absurd rfl h, by decide⟩
  · show (0 : Int32) = upd (fun _ => 0) 22 5 (0 + j)
    rw [upd, if_neg (by omega)]
  · show (0 : Int32) = upd (fun _ => 0) 22 5 (0 + (10 + j))
    rw [upd, if_neg (by omega)]
  · rfl
  · rfl
  · rfl
theorem SR_cong {s : Sm} {a b : Nat → Int32} {o o' : Nat} (h : ∀ j, j < 23 → b (o' + j) = a (o + j)) (hs : SR s a o) : SR s b o' := by
  obtain ⟨h1, h2, h3, h4, h5⟩ := hs
  refine ⟨fun j hj => ?_, by rw [h 20 (by omega)]; exact h2, by rw [h 21 (by omega)]; exact h3, by rw [h 22 (by omega)]; exact h4, h5⟩
  rw [h j (by omega), h (10 + j) (by omega)]
  exact h1 j hj
theorem SR_same {s s' : Sm} {a : Nat → Int32} {o : Nat} (h : ∀ j, j < 10 → s'.1 j = s.1 j ∧ s'.2.1 j = s.2.1 j) (h2 : s'.2.2 = s.2.2) (hs : SR s a o) : SR s' a o := by
  unfold SR at hs ⊢
  rw [h2]
  refine ⟨fun j hj => ?_, hs.2⟩
  rw [(h j hj).1, (h j hj).2]
  exact hs.1 j hj
/-- the number of samples, and what follows -/
theorem SR_M {s : Sm} {a : Nat → Int32} (h : SR s a 0) : ∃ M : Nat, M ≤ 10 ∧ s.2.2.1 = nI M ∧ a 20 = nI M ∧ (∀ j, M ≤ j → j < 32 → bt s.2.2.2.1 j = false) := by
  obtain ⟨-, h2, -, -, h5, h6, -⟩ := h
  have e : s.2.2.1 = nI s.2.2.1.toInt.toNat := i_nI (by omega)
  exact ⟨s.2.2.1.toInt.toNat, by omega, e, by rw [← e, h2], fun j hj hj2 => h6 j (by omega) hj2⟩
-- bits and numbers
theorem bits_lt {x : Int32} {M : Nat} (h : ∀ j, M ≤ j → j < 32 → bt x j = false) : x.toBitVec.toNat < 2 ^ M := by
  apply Nat.lt_pow_two_of_testBit
  intro i hi
  by_cases h32 : i < 32
  · have := h i hi h32
    unfold bt at this
    rw [BitVec.getLsbD] at this
    exact this
  · exact Nat.testBit_lt_two_pow (Nat.lt_of_lt_of_le x.toBitVec.isLt (Nat.pow_le_pow_right (by decide) (by omega)))
theorem nI_bits (x : Int32) : x = nI x.toBitVec.toNat := Int32.toBitVec_inj.mp (by show _ = BitVec.ofNat 32 _; simp)
set_option maxRecDepth 100000 in
theorem bc_size : ∀ m, m < 1024 → F_J6_bitCount_0f7a4 (nI m) = F_X3_size (nI m) := by decide +kernel
theorem bc_eq {x : Int32} (h : ∀ j, 10 ≤ j → j < 32 → bt x j = false) : F_J6_bitCount_0f7a4 x = F_X3_size x := by
  have h1 := bits_lt h
  rw [nI_bits x]
  exact bc_size _ h1
theorem btw_in (p a b : Int32) : F_X2_isBetween p a b = F_X3_in p.toInt64 a.toInt64 b.toInt64 := by
  unfold F_X2_isBetween F_X3_in
  have e1 : (lg_cmp p.toInt64 a.toInt64 < 0) ↔ p < a := by rw [lg_cmp_lt, Int64.lt_iff_toInt_lt, Int32.toInt_toInt64, Int32.toInt_toInt64, Int32.lt_iff_toInt_lt]
  have e2 : (0 < lg_cmp p.toInt64 b.toInt64) ↔ b < p := by rw [lg_cmp_gt, Int64.lt_iff_toInt_lt, Int32.toInt_toInt64, Int32.toInt_toInt64, Int32.lt_iff_toInt_lt]
  simp only [e1, e2]
theorem place_here (p0 p1 : Int32) : F_X2_isPlace p0 p1 = F_X3_isHere p0 p1 := by
  unfold F_X2_isPlace F_X3_isHere
  rw [btw_in, btw_in]
  rfl
theorem here_IB {p0 p1 : Int32} (h : ¬ F_X3_isHere p0 p1 = 0) : IB p0 ∧ IB p1 := by
  unfold F_X3_isHere at h
  by_cases h1 : F_X3_in p0.toInt64 (-40) 40 = 0
  · rw [if_pos h1] at h; exact absurd rfl h
  · rw [if_neg h1] at h
    by_cases h2 : F_X3_in p1.toInt64 (-40) 40 = 0
    · rw [if_pos h2] at h; exact absurd rfl h
    · have a1 := in_ne h1
      have a2 := in_ne h2
      rw [Int32.toInt_toInt64] at a1 a2
      exact ⟨a1, a2⟩
theorem samp_same {s : Sm} {a : Nat → Int32} (h : SR s a 0) (p0 : Int32) : F_X2_isSample s p0 = F_X3_isSample a p0 := by
  obtain ⟨M, hM, e1, e2, -⟩ := SR_M h
  unfold F_X2_isSample F_X3_isSample F_X3_in
  rw [e1, e2]
  have e0 : (0 : Int64).toInt = 0 := by decide
  have m1 : (nI M - 1).toInt = (M : Int) - 1 := by
    have e : (-1 : Int32).toInt = -1 := by decide
    have hs : nI M - 1 = nI M + (-1) := Int32.sub_eq_add_neg _ _
    have hn := nI_toInt (n := M) (by omega)
    rw [hs, i_add (by omega) (by omega), e, hn]
    omega
  have a1 : (lg_cmp p0.toInt64 0 < 0) ↔ p0.toInt < 0 := by rw [lg_cmp_lt, Int64.lt_iff_toInt_lt, Int32.toInt_toInt64, e0]
  have a2 : (0 < lg_cmp p0.toInt64 (nI M - 1).toInt64) ↔ (M : Int) - 1 < p0.toInt := by rw [lg_cmp_gt, Int64.lt_iff_toInt_lt, Int32.toInt_toInt64, Int32.toInt_toInt64, m1]
  have b1 : (p0 < 0) ↔ p0.toInt < 0 := by rw [Int32.lt_iff_toInt_lt]; rfl
  have b2 : (nI M ≤ p0) ↔ (M : Int) ≤ p0.toInt := by rw [Int32.le_iff_toInt_le, nI_toInt (by omega)]
  have b3 : ((10 : Int32) ≤ p0) ↔ 10 ≤ p0.toInt := by rw [Int32.le_iff_toInt_le]; rfl
  simp only [a1, a2, b1, b2, b3]
  by_cases c1 : p0.toInt < 0
  · rw [if_pos c1, if_pos c1]
  · rw [if_neg c1, if_neg c1]
    by_cases c2 : (M : Int) ≤ p0.toInt
    · rw [if_pos c2, if_pos (by omega)]
    · rw [if_neg c2, if_neg (by omega), if_neg (by omega)]
/-- a sample's number -/
theorem samp_k {s : Sm} {a : Nat → Int32} (h : SR s a 0) {p0 : Int32} (hp : ¬ F_X3_isSample a p0 = 0) : ∃ k : Nat, k < 10 ∧ p0 = nI k ∧ (k : Int) < s.2.2.1.toInt := by
  obtain ⟨M, hM, e1, e2, -⟩ := SR_M h
  rw [← samp_same h] at hp
  unfold F_X2_isSample at hp
  by_cases c1 : p0 < 0
  · rw [if_pos c1] at hp; exact absurd rfl hp
  · rw [if_neg c1] at hp
    by_cases c2 : s.2.2.1 ≤ p0
    · rw [if_pos c2] at hp; exact absurd rfl hp
    · rw [Int32.lt_iff_toInt_lt] at c1
      rw [Int32.le_iff_toInt_le] at c2
      have e0 : (0 : Int32).toInt = 0 := by decide
      have hm : s.2.2.1.toInt = (M : Int) := by rw [e1, nI_toInt (by omega)]
      exact ⟨p0.toInt.toNat, by omega, i_nI (by omega), by omega⟩
