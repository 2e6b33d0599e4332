section OPS
variable {now im0 im1 : Sm} {kp : Int32} {st im kt : Nat → Int32}
theorem mid_ok (h : Rel now im0 im1 kp st im kt) (md : Rd) : ¬ (F_X3_layTaken st md).1 = 0 → ¬ 2 * (F_X3_layTaken st md).2.2.2.2.2.2.2.2.2.2.2.2.2 = 0 := by sorry
theorem op_add (h : Rel now im0 im1 kp st im kt) (p0 p1 : Int32) : (F_X2_add now p0 p1).1 = (F_X3_add st p0 p1).1 ∧ Rel (F_X2_add now p0 p1).2 im0 im1 kp (F_X3_add st p0 p1).2 im kt := by sorry
theorem op_clear (h : Rel now im0 im1 kp st im kt) : (F_X2_clear now).1 = (F_X3_clear st).1 ∧ Rel (F_X2_clear now).2 im0 im1 kp (F_X3_clear st).2 im kt := by sorry
theorem op_take (h : Rel now im0 im1 kp st im kt) (p0 p1 : Int32) : (F_X2_take now p0 p1).1 = (F_X3_take st p0 p1).1 ∧ Rel (F_X2_take now p0 p1).2 im0 im1 kp (F_X3_take st p0 p1).2 im kt := by sorry
theorem op_of (h : Rel now im0 im1 kp st im kt) (p0 p1 : Int32) : F_X2_of now p0 p1 = F_X3_of st p0 p1 := by sorry
theorem op_round (h : Rel now im0 im1 kp st im kt) (r md : Rd) (p0 p1 : Int32) : (F_X2_round now r p0 p1).1 = (F_X3_round st md p0 p1).1 := by sorry
theorem op_middle (h : Rel now im0 im1 kp st im kt) (r md : Rd) (p0 p1 : Int32) : (F_X2_middle now r p0 p1).1 = (F_X3_middle st md p0 p1).1 := by sorry
theorem op_off (h : Rel now im0 im1 kp st im kt) (r md : Rd) (p0 p1 : Int32) : (F_X2_off now r p0 p1).1 = (F_X3_off st md p0 p1).1 := by sorry
theorem op_worst (h : Rel now im0 im1 kp st im kt) (r md : Rd) (p0 : Int32) : (F_X2_worst now r p0).1 = (F_X3_worst st md p0).1 := by sorry
theorem op_need (h : Rel now im0 im1 kp st im kt) (p0 : Int32) : (F_X2_need now p0).1 = (F_X3_need st p0).1 ∧ Rel (F_X2_need now p0).2 im0 im1 kp (F_X3_need st p0).2 im kt := by sorry
theorem op_cover (h : Rel now im0 im1 kp st im kt) (r md : Rd) : (F_X2_cover now r).1 = (F_X3_cover st md).1 := by sorry
theorem op_poor (h : Rel now im0 im1 kp st im kt) (r md : Rd) : (F_X2_poor now r).1 = (F_X3_poor st md).1 := by sorry
theorem op_eighth (h : Rel now im0 im1 kp st im kt) (r md : Rd) (p0 : Int32) : (F_X2_eighth now r p0).1 = (F_X3_eighth st md p0).1 := by sorry
theorem op_points (h : Rel now im0 im1 kp st im kt) (r md : Rd) (p0 p1 : Int32) : (F_X2_points now r p0 p1).1 = (F_X3_points st md p0 p1).1 := by sorry
theorem op_helps (h : Rel now im0 im1 kp st im kt) (r t md : Rd) : (F_X2_helps now r t).1 = (F_X3_helps st md).1 := by sorry
theorem op_trim (h : Rel now im0 im1 kp st im kt) (r md : Rd) (p0 : Int32) : (F_X2_trim now r p0).1 = (F_X3_trim st md p0).1 ∧ Rel (F_X2_trim now r p0).2.1 im0 im1 kp (F_X3_trim st md p0).2.1 im kt := by sorry
theorem op_fewest (h : Rel now im0 im1 kp st im kt) (t md : Rd) (p0 p1 : Int32) : (F_X2_fewest now t p0 p1).1 = (F_X3_fewest st md p0 p1).1 := by sorry
theorem op_image (h : Rel now im0 im1 kp st im kt) (p0 : Int32) : (F_X2_image now im0 im1 kp p0).1 = (F_X3_image st im kt p0).1 ∧ Rel now (F_X2_image now im0 im1 kp p0).2.1 (F_X2_image now im0 im1 kp p0).2.2.1 (F_X2_image now im0 im1 kp p0).2.2.2 st (F_X3_image st im kt p0).2.1 (F_X3_image st im kt p0).2.2 := by sorry
theorem op_restore (h : Rel now im0 im1 kp st im kt) (p0 : Int32) : (F_X2_restore now im0 im1 kp p0).1 = (F_X3_restore st im kt p0).1 ∧ Rel (F_X2_restore now im0 im1 kp p0).2 im0 im1 kp (F_X3_restore st im kt p0).2 im kt := by sorry
theorem op_count (h : Rel now im0 im1 kp st im kt) (r md : Rd) (p0 : Int32) : (F_X2_count now kp r p0).1 = (F_X3_count st kt md p0).1 := by sorry
end OPS
