/-! what ties the class's state to the reference's -/
def SR (s : Sm) (a : Nat → Int32) (o : Nat) : Prop :=
  (∀ j : Nat, j < 10 → s.1 j = a (o + j) ∧ s.2.1 j = a (o + 10 + j) ∧ (-40 ≤ (s.1 j).toInt ∧ (s.1 j).toInt ≤ 40) ∧ (-40 ≤ (s.2.1 j).toInt ∧ (s.2.1 j).toInt ≤ 40)) ∧
  s.2.2.1 = a (o + 20) ∧ s.2.2.2.1 = a (o + 21) ∧ s.2.2.2.2 = a (o + 22) ∧
  (0 ≤ s.2.2.1.toInt ∧ s.2.2.1.toInt ≤ 10) ∧ (0 ≤ s.2.2.2.1.toInt ∧ s.2.2.2.1.toInt < 2 ^ s.2.2.1.toInt.toNat) ∧ (1 ≤ s.2.2.2.2.toInt ∧ s.2.2.2.2.toInt ≤ 8)
def Rel (now im0 im1 : Sm) (kp : Int32) (st im kt : Nat → Int32) : Prop :=
  SR now st 0 ∧ (¬ kt 0 = 0 → SR im0 im 0) ∧ (¬ kt 1 = 0 → SR im1 im 23) ∧ kp = (if kt 0 = 0 then 0 else 1) + (if kt 1 = 0 then 0 else 2)
theorem rel_mb {now im0 im1 : Sm} {kp : Int32} {st im kt : Nat → Int32} (h : Rel now im0 im1 kp st im kt) : MB st := by
  obtain ⟨⟨-, h1, -, -, h2, -⟩, -⟩ := h
  rw [h1] at h2
  exact h2
theorem rel_init : Rel (fun _ => 0, fun _ => 0, 0, 0, 5) (fun _ => 0, fun _ => 0, 0, 0, 5) (fun _ => 0, fun _ => 0, 0, 0, 5) 0 (upd (fun _ => 0) 22 5) (fun _ => 0) (fun _ => 0) := by
  refine ⟨⟨fun j hj => ⟨?_, ?_, (show -40 ≤ (0 : Int32).toInt ∧ (0 : Int32).toInt ≤ 40 by decide), (show -40 ≤ (0 : Int32).toInt ∧ (0 : Int32).toInt ≤ 40 by decide)⟩, ?_, ?_, ?_, by decide, by decide, by decide⟩, fun h => absurd rfl h, fun h => absurd rfl h, by decide⟩
  · show (0 : Int32) = upd (fun _ => 0) 22 5 (0 + j)
    rw [upd, if_neg (by omega)]
  · show (0 : Int32) = upd (fun _ => 0) 22 5 (0 + 10 + j)
    rw [upd, if_neg (by omega)]
  · rfl
  · rfl
  · rfl
