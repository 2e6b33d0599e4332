/-! the reference: where its indices stay, what its rounds say -/
theorem i_ltSh {st : Nat → Int32} {i : Int32} {k : Nat} (hm : MB st) (hi : i.toInt = (k : Int)) (c : ¬ (1 : Int32) <<< (st 20 &&& 31) ≤ i) : k < 1024 := by
  sorry
theorem in01p {p0 : Int32} (h : ¬ F_X3_in p0.toInt64 0 1 = 0) : p0 = 0 ∨ p0 = 1 := by
  have h1 := in_ne h
  have e0 : (0 : Int64).toInt = 0 := by decide
  have e1 : (1 : Int64).toInt = 1 := by decide
  rw [Int32.toInt_toInt64, e0, e1] at h1
  rcases (show p0.toInt = 0 ∨ p0.toInt = 1 by omega) with h | h
  · exact Or.inl (Int32.toInt_inj.mp (by rw [h]; decide))
  · exact Or.inr (Int32.toInt_inj.mp (by rw [h]; decide))
theorem vp_kt {p0 : Int32} (h : ¬ F_X3_in p0.toInt64 0 1 = 0) : vp_in p0 2 := by
  rcases in01p h with h | h <;> subst h <;> exact vp_lit (by decide)
theorem vp_im {p0 i : Int32} {k : Nat} (h : ¬ F_X3_in p0.toInt64 0 1 = 0) (hi : i.toInt = (k : Int)) (hk : k < 23) : vp_in (23 * p0 + i) 46 := by
  have e0 : ((23 : Int32) * 0).toInt = 0 := by decide
  have e1 : ((23 : Int32) * 1).toInt = 23 := by decide
  refine vp_in_iff.mpr ?_
  rcases in01p h with h | h <;> subst h <;> rw [i_add (by omega) (by omega)] <;> omega
theorem layT_by {st : Nat → Int32} {md : Rd} (h : ¬ (F_X3_layTaken st md).1 = 0) : ¬ (F_X3_layTaken st md).2.2.2.2.2.2.2.2.2.2.2.2.2 = 0 := by
  sorry
theorem lay_w {st : Nat → Int32} {md q : Rd} {p0 : Int32} (hm : MB st) (h : ¬ (F_X3_lay st md p0).1 = 0) : ∃ k : Nat, k < 10 ∧ (F_X3_worstOf st q p0).toInt = (k : Int) := by
  sorry
theorem lay_wx {st : Nat → Int32} {md q : Rd} {p0 : Int32} (hm : MB st) (h : ¬ (F_X3_lay st md p0).1 = 0) : vp_in (0 + F_X3_worstOf st q p0) 23 := by
  obtain ⟨k, h1, h2⟩ := lay_w (q := q) hm h
  exact vp_x h2 h1
theorem lay_wy {st : Nat → Int32} {md q : Rd} {p0 : Int32} (hm : MB st) (h : ¬ (F_X3_lay st md p0).1 = 0) : vp_in (10 + F_X3_worstOf st q p0) 23 := by
  obtain ⟨k, h1, h2⟩ := lay_w (q := q) hm h
  exact vp_y h2 h1
theorem layT_wx {st : Nat → Int32} {md q : Rd} (hm : MB st) (h : ¬ (F_X3_layTaken st md).1 = 0) : vp_in (0 + F_X3_worstOf st q (st 21)) 23 := lay_wx (md := md) hm h
theorem layT_wy {st : Nat → Int32} {md q : Rd} (hm : MB st) (h : ¬ (F_X3_layTaken st md).1 = 0) : vp_in (10 + F_X3_worstOf st q (st 21)) 23 := lay_wy (md := md) hm h
/-- what worstOf finds is a member of the set -/
theorem worst_in {z : Nat → Int32} {q : Rd} {set : Int32} (hm : MB z) : F_X3_worstOf z q set = -6 ∨ ∃ k : Nat, k < 10 ∧ (F_X3_worstOf z q set).toInt = (k : Int) ∧ (set >>> (F_X3_worstOf z q set &&& 31)) &&& 1 = 1 := by
  sorry
theorem trim_k {z : Nat → Int32} {q : Rd} {i : Int32} (hm : MB z) (hv : i = F_X3_worstOf z q (z 21) ∨ i = -6) (c : ¬ i < 0) : ∃ k : Nat, k < 10 ∧ i.toInt = (k : Int) ∧ (z 21 >>> (i &&& 31)) &&& 1 = 1 := by
  rcases hv with h | h
  · rw [h]
    rcases worst_in (q := q) (set := z 21) hm with h1 | h1
    · rw [h, h1] at c; exact absurd (by decide) c
    · exact h1
  · rw [h] at c; exact absurd (by decide) c
theorem trim_vx {z : Nat → Int32} {q : Rd} {i : Int32} (hm : MB z) (hv : i = F_X3_worstOf z q (z 21) ∨ i = -6) (c : ¬ i < 0) : vp_in (0 + i) 23 := by
  obtain ⟨k, h1, h2, -⟩ := trim_k hm hv c
  exact vp_x h2 h1
theorem trim_vy {z : Nat → Int32} {q : Rd} {i : Int32} (hm : MB z) (hv : i = F_X3_worstOf z q (z 21) ∨ i = -6) (c : ¬ i < 0) : vp_in (10 + i) 23 := by
  obtain ⟨k, h1, h2, -⟩ := trim_k hm hv c
  exact vp_y h2 h1
theorem size_ge0 (x : Int32) : 0 ≤ (F_X3_size x).toInt := by
  sorry
theorem size_lt11 (x : Int32) : (F_X3_size x).toInt < 11 := by
  sorry
theorem size_clear {x i : Int32} {k : Nat} (hk : k < 10) (hi : i.toInt = (k : Int)) (hb : (x >>> (i &&& 31)) &&& 1 = 1) : (F_X3_size (x &&& ((1 : Int32) <<< (i &&& 31) ^^^ -1))).toInt + 1 = (F_X3_size x).toInt := by
  sorry
theorem trim_dec {z : Nat → Int32} {q : Rd} {i : Int32} {n : Nat} (hm : MB z) (hv : i = F_X3_worstOf z q (z 21) ∨ i = -6) (c : ¬ i < 0) (hfu : (F_X3_size (z 21)).toInt < ((n + 1 : Nat) : Int)) : (F_X3_size ((upd z 21 (z 21 &&& ((1 : Int32) <<< (i &&& 31) ^^^ -1))) 21)).toInt < (n : Int) := by
  obtain ⟨k, h1, h2, h3⟩ := trim_k hm hv c
  have e : (upd z 21 (z 21 &&& ((1 : Int32) <<< (i &&& 31) ^^^ -1))) 21 = z 21 &&& ((1 : Int32) <<< (i &&& 31) ^^^ -1) := by simp [upd]
  rw [e]
  have := size_clear h1 h2 h3
  omega
