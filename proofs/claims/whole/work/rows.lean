section
-- ===== PART A: goes FIRST, ahead of the names: the tables' words, and 'selects' of the private methods out of them =====
/-- a private method of a class that the tables say can be made, by its rows of tables_1 -/
def lw_okq (q : MethodName × Nat) : Prop := (q.1.cls ≠ "java/lang/invoke/MethodHandle" ∧ q.1.cls ≠ "java/lang/invoke/VarHandle") ∧ Cond.instantiable q.1.cls q.2 ∈ tables_1 ∧ Cond.privateMethod q.1 ∈ tables_1 ∧ Cond.instanceMethod q.1 ∈ tables_1
theorem lw_p0 : lw_okq (⟨"CompassBias", "isSample", "(I)Z"⟩, 6) := ⟨⟨by decide +kernel, by decide +kernel⟩, List.mem_of_getElem? (i := 8) (by decide +kernel), List.mem_of_getElem? (i := 131) (by decide +kernel), List.mem_of_getElem? (i := 132) (by decide +kernel)⟩
theorem lw_p1 : lw_okq (⟨"CompassBias", "layTheRound", "()V"⟩, 6) := ⟨⟨by decide +kernel, by decide +kernel⟩, List.mem_of_getElem? (i := 8) (by decide +kernel), List.mem_of_getElem? (i := 156) (by decide +kernel), List.mem_of_getElem? (i := 157) (by decide +kernel)⟩
theorem lw_p2 : lw_okq (⟨"CompassBias", "sumUp", "(LCompassBias$Round;I)V"⟩, 6) := ⟨⟨by decide +kernel, by decide +kernel⟩, List.mem_of_getElem? (i := 8) (by decide +kernel), List.mem_of_getElem? (i := 160) (by decide +kernel), List.mem_of_getElem? (i := 161) (by decide +kernel)⟩
theorem lw_p3 : lw_okq (⟨"CompassBias", "worstSample", "()I"⟩, 6) := ⟨⟨by decide +kernel, by decide +kernel⟩, List.mem_of_getElem? (i := 8) (by decide +kernel), List.mem_of_getElem? (i := 213) (by decide +kernel), List.mem_of_getElem? (i := 214) (by decide +kernel)⟩
theorem lw_p4 : lw_okq (⟨"CompassBias", "sizeUpper", "(LCompassBias$Round;I)J"⟩, 6) := ⟨⟨by decide +kernel, by decide +kernel⟩, List.mem_of_getElem? (i := 8) (by decide +kernel), List.mem_of_getElem? (i := 218) (by decide +kernel), List.mem_of_getElem? (i := 219) (by decide +kernel)⟩
theorem lw_p5 : lw_okq (⟨"CompassBias", "coverBy", "(LCompassBias$Round;)I"⟩, 6) := ⟨⟨by decide +kernel, by decide +kernel⟩, List.mem_of_getElem? (i := 8) (by decide +kernel), List.mem_of_getElem? (i := 230) (by decide +kernel), List.mem_of_getElem? (i := 231) (by decide +kernel)⟩
theorem lw_p6 : lw_okq (⟨"CompassBias", "isTheRoundPoor", "()Z"⟩, 6) := ⟨⟨by decide +kernel, by decide +kernel⟩, List.mem_of_getElem? (i := 8) (by decide +kernel), List.mem_of_getElem? (i := 249) (by decide +kernel), List.mem_of_getElem? (i := 250) (by decide +kernel)⟩
theorem lw_p7 : lw_okq (⟨"CompassBias", "helpAt", "(III)I"⟩, 6) := ⟨⟨by decide +kernel, by decide +kernel⟩, List.mem_of_getElem? (i := 8) (by decide +kernel), List.mem_of_getElem? (i := 265) (by decide +kernel), List.mem_of_getElem? (i := 266) (by decide +kernel)⟩
theorem lw_p8 : lw_okq (⟨"CompassBias", "isToTrim", "(I)Z"⟩, 6) := ⟨⟨by decide +kernel, by decide +kernel⟩, List.mem_of_getElem? (i := 8) (by decide +kernel), List.mem_of_getElem? (i := 277) (by decide +kernel), List.mem_of_getElem? (i := 278) (by decide +kernel)⟩
theorem lw_p9 : lw_okq (⟨"CompassBias", "isSizeAbove", "(LCompassBias$Round;II)Z"⟩, 6) := ⟨⟨by decide +kernel, by decide +kernel⟩, List.mem_of_getElem? (i := 8) (by decide +kernel), List.mem_of_getElem? (i := 281) (by decide +kernel), List.mem_of_getElem? (i := 282) (by decide +kernel)⟩
theorem lw_p10 : lw_okq (⟨"CompassBias", "leastSetToLeaveOut", "(II)I"⟩, 6) := ⟨⟨by decide +kernel, by decide +kernel⟩, List.mem_of_getElem? (i := 8) (by decide +kernel), List.mem_of_getElem? (i := 289) (by decide +kernel), List.mem_of_getElem? (i := 290) (by decide +kernel)⟩
theorem lw_p11 : lw_okq (⟨"CompassBias", "isWithin", "(II)Z"⟩, 6) := ⟨⟨by decide +kernel, by decide +kernel⟩, List.mem_of_getElem? (i := 8) (by decide +kernel), List.mem_of_getElem? (i := 293) (by decide +kernel), List.mem_of_getElem? (i := 294) (by decide +kernel)⟩
theorem lw_p12 : lw_okq (⟨"CompassBiasModel", "isSample", "(I)Z"⟩, 16) := ⟨⟨by decide +kernel, by decide +kernel⟩, List.mem_of_getElem? (i := 313) (by decide +kernel), List.mem_of_getElem? (i := 389) (by decide +kernel), List.mem_of_getElem? (i := 390) (by decide +kernel)⟩
theorem lw_p13 : lw_okq (⟨"CompassBiasModel", "layTaken", "()Z"⟩, 16) := ⟨⟨by decide +kernel, by decide +kernel⟩, List.mem_of_getElem? (i := 313) (by decide +kernel), List.mem_of_getElem? (i := 409) (by decide +kernel), List.mem_of_getElem? (i := 410) (by decide +kernel)⟩
theorem lw_p14 : lw_okq (⟨"CompassBiasModel", "lay", "(I)Z"⟩, 16) := ⟨⟨by decide +kernel, by decide +kernel⟩, List.mem_of_getElem? (i := 313) (by decide +kernel), List.mem_of_getElem? (i := 413) (by decide +kernel), List.mem_of_getElem? (i := 414) (by decide +kernel)⟩
theorem lw_p15 : lw_okq (⟨"CompassBiasModel", "sumSet", "(I)V"⟩, 16) := ⟨⟨by decide +kernel, by decide +kernel⟩, List.mem_of_getElem? (i := 313) (by decide +kernel), List.mem_of_getElem? (i := 417) (by decide +kernel), List.mem_of_getElem? (i := 418) (by decide +kernel)⟩
def lw_privs_1 : List (MethodName × Nat) := [(⟨"CompassBias", "isSample", "(I)Z"⟩, 6), (⟨"CompassBias", "layTheRound", "()V"⟩, 6), (⟨"CompassBias", "sumUp", "(LCompassBias$Round;I)V"⟩, 6), (⟨"CompassBias", "worstSample", "()I"⟩, 6), (⟨"CompassBias", "sizeUpper", "(LCompassBias$Round;I)J"⟩, 6), (⟨"CompassBias", "coverBy", "(LCompassBias$Round;)I"⟩, 6), (⟨"CompassBias", "isTheRoundPoor", "()Z"⟩, 6), (⟨"CompassBias", "helpAt", "(III)I"⟩, 6), (⟨"CompassBias", "isToTrim", "(I)Z"⟩, 6), (⟨"CompassBias", "isSizeAbove", "(LCompassBias$Round;II)Z"⟩, 6), (⟨"CompassBias", "leastSetToLeaveOut", "(II)I"⟩, 6), (⟨"CompassBias", "isWithin", "(II)Z"⟩, 6), (⟨"CompassBiasModel", "isSample", "(I)Z"⟩, 16), (⟨"CompassBiasModel", "layTaken", "()Z"⟩, 16), (⟨"CompassBiasModel", "lay", "(I)Z"⟩, 16), (⟨"CompassBiasModel", "sumSet", "(I)V"⟩, 16)]
theorem lw_r1 : ∀ q ∈ lw_privs_1, lw_okq q := List.forall_mem_cons.mpr ⟨lw_p0, List.forall_mem_cons.mpr ⟨lw_p1, List.forall_mem_cons.mpr ⟨lw_p2, List.forall_mem_cons.mpr ⟨lw_p3, List.forall_mem_cons.mpr ⟨lw_p4, List.forall_mem_cons.mpr ⟨lw_p5, List.forall_mem_cons.mpr ⟨lw_p6, List.forall_mem_cons.mpr ⟨lw_p7, List.forall_mem_cons.mpr ⟨lw_p8, List.forall_mem_cons.mpr ⟨lw_p9, List.forall_mem_cons.mpr ⟨lw_p10, List.forall_mem_cons.mpr ⟨lw_p11, List.forall_mem_cons.mpr ⟨lw_p12, List.forall_mem_cons.mpr ⟨lw_p13, List.forall_mem_cons.mpr ⟨lw_p14, List.forall_mem_cons.mpr ⟨lw_p15, fun _ h => absurd h List.not_mem_nil⟩⟩⟩⟩⟩⟩⟩⟩⟩⟩⟩⟩⟩⟩⟩⟩
theorem lw_p16 : lw_okq (⟨"CompassBiasModel", "sumOne", "(II)V"⟩, 16) := ⟨⟨by decide +kernel, by decide +kernel⟩, List.mem_of_getElem? (i := 313) (by decide +kernel), List.mem_of_getElem? (i := 421) (by decide +kernel), List.mem_of_getElem? (i := 422) (by decide +kernel)⟩
theorem lw_p17 : lw_okq (⟨"CompassBiasModel", "layRound", "()V"⟩, 16) := ⟨⟨by decide +kernel, by decide +kernel⟩, List.mem_of_getElem? (i := 313) (by decide +kernel), List.mem_of_getElem? (i := 425) (by decide +kernel), List.mem_of_getElem? (i := 426) (by decide +kernel)⟩
theorem lw_p18 : lw_okq (⟨"CompassBiasModel", "offOf", "(I)J"⟩, 16) := ⟨⟨by decide +kernel, by decide +kernel⟩, List.mem_of_getElem? (i := 313) (by decide +kernel), List.mem_of_getElem? (i := 451) (by decide +kernel), List.mem_of_getElem? (i := 452) (by decide +kernel)⟩
theorem lw_p19 : lw_okq (⟨"CompassBiasModel", "worstOf", "(I)I"⟩, 16) := ⟨⟨by decide +kernel, by decide +kernel⟩, List.mem_of_getElem? (i := 313) (by decide +kernel), List.mem_of_getElem? (i := 459) (by decide +kernel), List.mem_of_getElem? (i := 460) (by decide +kernel)⟩
theorem lw_p20 : lw_okq (⟨"CompassBiasModel", "coverOf", "(I)I"⟩, 16) := ⟨⟨by decide +kernel, by decide +kernel⟩, List.mem_of_getElem? (i := 313) (by decide +kernel), List.mem_of_getElem? (i := 472) (by decide +kernel), List.mem_of_getElem? (i := 473) (by decide +kernel)⟩
theorem lw_p21 : lw_okq (⟨"CompassBiasModel", "eighthAt", "(II)I"⟩, 16) := ⟨⟨by decide +kernel, by decide +kernel⟩, List.mem_of_getElem? (i := 313) (by decide +kernel), List.mem_of_getElem? (i := 476) (by decide +kernel), List.mem_of_getElem? (i := 477) (by decide +kernel)⟩
theorem lw_p22 : lw_okq (⟨"CompassBiasModel", "isPoor", "()Z"⟩, 16) := ⟨⟨by decide +kernel, by decide +kernel⟩, List.mem_of_getElem? (i := 313) (by decide +kernel), List.mem_of_getElem? (i := 490) (by decide +kernel), List.mem_of_getElem? (i := 491) (by decide +kernel)⟩
theorem lw_p23 : lw_okq (⟨"CompassBiasModel", "bitWith", "(II)I"⟩, 16) := ⟨⟨by decide +kernel, by decide +kernel⟩, List.mem_of_getElem? (i := 313) (by decide +kernel), List.mem_of_getElem? (i := 506) (by decide +kernel), List.mem_of_getElem? (i := 507) (by decide +kernel)⟩
theorem lw_p24 : lw_okq (⟨"CompassBiasModel", "isWithin", "(II)Z"⟩, 16) := ⟨⟨by decide +kernel, by decide +kernel⟩, List.mem_of_getElem? (i := 313) (by decide +kernel), List.mem_of_getElem? (i := 519) (by decide +kernel), List.mem_of_getElem? (i := 520) (by decide +kernel)⟩
def lw_privs_2 : List (MethodName × Nat) := [(⟨"CompassBiasModel", "sumOne", "(II)V"⟩, 16), (⟨"CompassBiasModel", "layRound", "()V"⟩, 16), (⟨"CompassBiasModel", "offOf", "(I)J"⟩, 16), (⟨"CompassBiasModel", "worstOf", "(I)I"⟩, 16), (⟨"CompassBiasModel", "coverOf", "(I)I"⟩, 16), (⟨"CompassBiasModel", "eighthAt", "(II)I"⟩, 16), (⟨"CompassBiasModel", "isPoor", "()Z"⟩, 16), (⟨"CompassBiasModel", "bitWith", "(II)I"⟩, 16), (⟨"CompassBiasModel", "isWithin", "(II)Z"⟩, 16)]
theorem lw_r2 : ∀ q ∈ lw_privs_2, lw_okq q := List.forall_mem_cons.mpr ⟨lw_p16, List.forall_mem_cons.mpr ⟨lw_p17, List.forall_mem_cons.mpr ⟨lw_p18, List.forall_mem_cons.mpr ⟨lw_p19, List.forall_mem_cons.mpr ⟨lw_p20, List.forall_mem_cons.mpr ⟨lw_p21, List.forall_mem_cons.mpr ⟨lw_p22, List.forall_mem_cons.mpr ⟨lw_p23, List.forall_mem_cons.mpr ⟨lw_p24, fun _ h => absurd h List.not_mem_nil⟩⟩⟩⟩⟩⟩⟩⟩⟩
def lw_privs : List (MethodName × Nat) := lw_privs_1 ++ (lw_privs_2)
def lw_tbl : List Cond := k2_sels lw_privs ++ tables_1
theorem lw_privs_ok : ∀ q ∈ lw_privs, lw_okq q := by
  show ∀ q ∈ lw_privs_1 ++ (lw_privs_2), lw_okq q
  exact List.forall_mem_append.mpr ⟨lw_r1, lw_r2⟩
-- ===== end of PART A; then your names; then what follows =====
end
section
/-! ===== BEGIN words of one list among another's, by their places ===== -/
theorem goodIn_r {big : List Cond} (ws : List Cond) (ps : List Nat) (hp : ws = ps.filterMap (fun i => big[i]?)) (h : ws.all goodWord = true) : GoodIn big ws := by
  intro w hw
  have h1 := List.all_eq_true.mp h w hw
  rw [hp] at hw
  obtain ⟨i, -, hi⟩ := List.mem_filterMap.mp hw
  have hm : w ∈ big := by first | exact List.mem_of_getElem? hi | exact List.getElem?_mem hi
  exact ⟨hm, good_of_word h1⟩
theorem goodIn_app {big a b : List Cond} (ha : GoodIn big a) (hb : GoodIn big b) : GoodIn big (a ++ b) := fun w h => (List.mem_append.mp h).elim (ha w) (hb w)
theorem goodIn_ca {big a b : List Cond} {c : Cond} (ha : GoodIn big (c :: a)) (hb : GoodIn big b) : GoodIn big (c :: (a ++ b)) := fun w h => (List.mem_cons.mp h).elim (fun e => ha w (List.mem_cons.mpr (Or.inl e))) (fun h => (List.mem_append.mp h).elim (fun h => ha w (List.mem_cons.mpr (Or.inr h))) (hb w))
theorem goodIn_sub {big ws : List Cond} (hm : ∀ w ∈ ws, w ∈ big) (h : ws.all goodWord = true) : GoodIn big ws := fun w hw => ⟨hm w hw, good_of_word (List.all_eq_true.mp h w hw)⟩
/-! ===== END ===== -/

/-! ===== BEGIN printed: names, fields, word lists, decode rows ===== -/
def RX0 : String := "CompassBias$Round"
def TX0 : u_T := fun k => match k with
  | 0 => ("CompassBias$Round", "many", "J", false)
  | 1 => ("CompassBias$Round", "sumX", "J", false)
  | 2 => ("CompassBias$Round", "sumY", "J", false)
  | 3 => ("CompassBias$Round", "sumXX", "J", false)
  | 4 => ("CompassBias$Round", "sumXY", "J", false)
  | 5 => ("CompassBias$Round", "sumYY", "J", false)
  | 6 => ("CompassBias$Round", "sumPower", "J", false)
  | 7 => ("CompassBias$Round", "sumXPower", "J", false)
  | 8 => ("CompassBias$Round", "sumYPower", "J", false)
  | 9 => ("CompassBias$Round", "spread", "J", false)
  | 10 => ("CompassBias$Round", "upperA", "J", false)
  | 11 => ("CompassBias$Round", "upperB", "J", false)
  | _ => ("CompassBias$Round", "upperC", "J", false)
def tyX0 : Nat → FieldType := fun k => match k with
  | 0 => .long
  | 1 => .long
  | 2 => .long
  | 3 => .long
  | 4 => .long
  | 5 => .long
  | 6 => .long
  | 7 => .long
  | 8 => .long
  | 9 => .long
  | 10 => .long
  | 11 => .long
  | _ => .long
abbrev wsX00 : List Cond := u_ws RX0 TX0 13
theorem nmX0 : ∀ a, a < 13 → ∀ b, b < 13 → a ≠ b → (TX0 a).2.1 ≠ (TX0 b).2.1 := by decide +kernel
theorem tyX0_ok : ∀ k, k < 13 → parseFieldDescriptor (TX0 k).2.2.1 = some (tyX0 k) := by decide +kernel
abbrev cX0_init : ByteArray := prog_2_method_1_code
def yX0_init : MethodName := ⟨RX0, "<init>", "()V"⟩
abbrev cX0_empty : ByteArray := prog_2_method_2_code
def yX0_empty : MethodName := ⟨RX0, "empty", "()V"⟩
abbrev cX0_startFrom : ByteArray := prog_2_method_3_code
def yX0_startFrom : MethodName := ⟨RX0, "startFrom", "(LCompassBias$Round;)V"⟩
abbrev cX0_include : ByteArray := prog_2_method_4_code
def yX0_include : MethodName := ⟨RX0, "include", "(II)V"⟩
abbrev cX0_lay : ByteArray := prog_2_method_5_code
def yX0_lay : MethodName := ⟨RX0, "lay", "()V"⟩
abbrev cX0_isFlat : ByteArray := prog_2_method_6_code
def yX0_isFlat : MethodName := ⟨RX0, "isFlat", "()Z"⟩
abbrev cX0_fullLower : ByteArray := prog_2_method_7_code
def yX0_fullLower : MethodName := ⟨RX0, "fullLower", "()J"⟩
abbrev cX0_offUpperAt : ByteArray := prog_2_method_8_code
def yX0_offUpperAt : MethodName := ⟨RX0, "offUpperAt", "(II)J"⟩
abbrev cX0_eighthAt : ByteArray := prog_2_method_9_code
def yX0_eighthAt : MethodName := ⟨RX0, "eighthAt", "(II)I"⟩
abbrev cX0_eighthTowards : ByteArray := prog_2_method_10_code
def yX0_eighthTowards : MethodName := ⟨RX0, "eighthTowards", "(JJ)I"⟩
def RX1 : String := "CompassBias$Samples"
def TX1 : u_T := fun k => match k with
  | 0 => ("CompassBias$Samples", "xs", "[I", true)
  | 1 => ("CompassBias$Samples", "ys", "[I", true)
  | 2 => ("CompassBias$Samples", "many", "I", false)
  | 3 => ("CompassBias$Samples", "taken", "I", false)
  | _ => ("CompassBias$Samples", "needed", "I", false)
def tyX1 : Nat → FieldType := fun k => match k with
  | 0 => .array .int
  | 1 => .array .int
  | 2 => .int
  | 3 => .int
  | _ => .int
abbrev wsX10 : List Cond := u_ws RX1 TX1 5
theorem nmX1 : ∀ a, a < 5 → ∀ b, b < 5 → a ≠ b → (TX1 a).2.1 ≠ (TX1 b).2.1 := by decide +kernel
theorem tyX1_ok : ∀ k, k < 5 → parseFieldDescriptor (TX1 k).2.2.1 = some (tyX1 k) := by decide +kernel
abbrev cX1_init : ByteArray := prog_3_method_1_code
def yX1_init : MethodName := ⟨RX1, "<init>", "()V"⟩
abbrev cX1_become : ByteArray := prog_3_method_2_code
def yX1_become : MethodName := ⟨RX1, "become", "(LCompassBias$Samples;)V"⟩
def RX2 : String := "CompassBias"
def TX2 : u_T := fun k => match k with
  | 0 => ("CompassBias", "now", "LCompassBias$Samples;", true)
  | 1 => ("CompassBias", "image0", "LCompassBias$Samples;", true)
  | 2 => ("CompassBias", "image1", "LCompassBias$Samples;", true)
  | 3 => ("CompassBias", "keptImages", "I", false)
  | 4 => ("CompassBias", "theRound", "LCompassBias$Round;", true)
  | _ => ("CompassBias", "trial", "LCompassBias$Round;", true)
def tyX2 : Nat → FieldType := fun k => match k with
  | 0 => .object "CompassBias$Samples"
  | 1 => .object "CompassBias$Samples"
  | 2 => .object "CompassBias$Samples"
  | 3 => .int
  | 4 => .object "CompassBias$Round"
  | _ => .object "CompassBias$Round"
abbrev wsX20 : List Cond := u_ws RX2 TX2 6
theorem nmX2 : ∀ a, a < 6 → ∀ b, b < 6 → a ≠ b → (TX2 a).2.1 ≠ (TX2 b).2.1 := by decide +kernel
theorem tyX2_ok : ∀ k, k < 6 → parseFieldDescriptor (TX2 k).2.2.1 = some (tyX2 k) := by decide +kernel
abbrev cX2_init : ByteArray := prog_1_method_1_code
def yX2_init : MethodName := ⟨RX2, "<init>", "()V"⟩
abbrev cX2_add : ByteArray := prog_1_method_2_code
def yX2_add : MethodName := ⟨RX2, "add", "(II)I"⟩
abbrev cX2_clear : ByteArray := prog_1_method_3_code
def yX2_clear : MethodName := ⟨RX2, "clear", "()I"⟩
abbrev cX2_take : ByteArray := prog_1_method_4_code
def yX2_take : MethodName := ⟨RX2, "take", "(II)I"⟩
abbrev cX2_of : ByteArray := prog_1_method_5_code
def yX2_of : MethodName := ⟨RX2, "of", "(II)I"⟩
abbrev cX2_round : ByteArray := prog_1_method_6_code
def yX2_round : MethodName := ⟨RX2, "round", "(II)J"⟩
abbrev cX2_middle : ByteArray := prog_1_method_7_code
def yX2_middle : MethodName := ⟨RX2, "middle", "(II)J"⟩
abbrev cX2_off : ByteArray := prog_1_method_8_code
def yX2_off : MethodName := ⟨RX2, "off", "(II)J"⟩
abbrev cX2_worst : ByteArray := prog_1_method_9_code
def yX2_worst : MethodName := ⟨RX2, "worst", "(I)I"⟩
abbrev cX2_need : ByteArray := prog_1_method_10_code
def yX2_need : MethodName := ⟨RX2, "need", "(I)I"⟩
abbrev cX2_cover : ByteArray := prog_1_method_11_code
def yX2_cover : MethodName := ⟨RX2, "cover", "()I"⟩
abbrev cX2_poor : ByteArray := prog_1_method_12_code
def yX2_poor : MethodName := ⟨RX2, "poor", "()I"⟩
abbrev cX2_eighth : ByteArray := prog_1_method_13_code
def yX2_eighth : MethodName := ⟨RX2, "eighth", "(I)I"⟩
abbrev cX2_points : ByteArray := prog_1_method_14_code
def yX2_points : MethodName := ⟨RX2, "points", "(II)I"⟩
abbrev cX2_helps : ByteArray := prog_1_method_15_code
def yX2_helps : MethodName := ⟨RX2, "helps", "()I"⟩
abbrev cX2_trim : ByteArray := prog_1_method_16_code
def yX2_trim : MethodName := ⟨RX2, "trim", "(I)I"⟩
abbrev cX2_fewest : ByteArray := prog_1_method_17_code
def yX2_fewest : MethodName := ⟨RX2, "fewest", "(II)I"⟩
abbrev cX2_image : ByteArray := prog_1_method_18_code
def yX2_image : MethodName := ⟨RX2, "image", "(I)I"⟩
abbrev cX2_restore : ByteArray := prog_1_method_19_code
def yX2_restore : MethodName := ⟨RX2, "restore", "(I)I"⟩
abbrev cX2_count : ByteArray := prog_1_method_20_code
def yX2_count : MethodName := ⟨RX2, "count", "(I)I"⟩
abbrev cX2_isBetween : ByteArray := prog_1_method_21_code
def yX2_isBetween : MethodName := ⟨RX2, "isBetween", "(III)Z"⟩
abbrev cX2_isPlace : ByteArray := prog_1_method_22_code
def yX2_isPlace : MethodName := ⟨RX2, "isPlace", "(II)Z"⟩
abbrev cX2_isSample : ByteArray := prog_1_method_23_code
def yX2_isSample : MethodName := ⟨RX2, "isSample", "(I)Z"⟩
abbrev cX2_isIn : ByteArray := prog_1_method_24_code
def yX2_isIn : MethodName := ⟨RX2, "isIn", "(II)Z"⟩
abbrev cX2_powerAt : ByteArray := prog_1_method_25_code
def yX2_powerAt : MethodName := ⟨RX2, "powerAt", "(II)I"⟩
abbrev cX2_partOfLowest : ByteArray := prog_1_method_26_code
def yX2_partOfLowest : MethodName := ⟨RX2, "partOfLowest", "(JJI)J"⟩
abbrev cX2_greatestDivisor : ByteArray := prog_1_method_27_code
def yX2_greatestDivisor : MethodName := ⟨RX2, "greatestDivisor", "(JJ)J"⟩
abbrev cX2_layTheRound : ByteArray := prog_1_method_28_code
def yX2_layTheRound : MethodName := ⟨RX2, "layTheRound", "()V"⟩
abbrev cX2_sumUp : ByteArray := prog_1_method_29_code
def yX2_sumUp : MethodName := ⟨RX2, "sumUp", "(LCompassBias$Round;I)V"⟩
abbrev cX2_sizeUpper : ByteArray := prog_1_method_30_code
def yX2_sizeUpper : MethodName := ⟨RX2, "sizeUpper", "(LCompassBias$Round;I)J"⟩
abbrev cX2_worstSample : ByteArray := prog_1_method_31_code
def yX2_worstSample : MethodName := ⟨RX2, "worstSample", "()I"⟩
abbrev cX2_coverBy : ByteArray := prog_1_method_32_code
def yX2_coverBy : MethodName := ⟨RX2, "coverBy", "(LCompassBias$Round;)I"⟩
abbrev cX2_setOfEighth : ByteArray := prog_1_method_33_code
def yX2_setOfEighth : MethodName := ⟨RX2, "setOfEighth", "(I)I"⟩
abbrev cX2_isTheRoundPoor : ByteArray := prog_1_method_34_code
def yX2_isTheRoundPoor : MethodName := ⟨RX2, "isTheRoundPoor", "()Z"⟩
abbrev cX2_helpAt : ByteArray := prog_1_method_35_code
def yX2_helpAt : MethodName := ⟨RX2, "helpAt", "(III)I"⟩
abbrev cX2_isToTrim : ByteArray := prog_1_method_36_code
def yX2_isToTrim : MethodName := ⟨RX2, "isToTrim", "(I)Z"⟩
abbrev cX2_isSizeAbove : ByteArray := prog_1_method_37_code
def yX2_isSizeAbove : MethodName := ⟨RX2, "isSizeAbove", "(LCompassBias$Round;II)Z"⟩
abbrev cX2_leastSetToLeaveOut : ByteArray := prog_1_method_38_code
def yX2_leastSetToLeaveOut : MethodName := ⟨RX2, "leastSetToLeaveOut", "(II)I"⟩
abbrev cX2_isWithin : ByteArray := prog_1_method_39_code
def yX2_isWithin : MethodName := ⟨RX2, "isWithin", "(II)Z"⟩
def RX3 : String := "CompassBiasModel"
def TX3 : u_T := fun k => match k with
  | 0 => ("CompassBiasModel", "state", "[I", true)
  | 1 => ("CompassBiasModel", "images", "[I", true)
  | 2 => ("CompassBiasModel", "isKept", "[Z", true)
  | 3 => ("CompassBiasModel", "n", "J", false)
  | 4 => ("CompassBiasModel", "sx", "J", false)
  | 5 => ("CompassBiasModel", "sy", "J", false)
  | 6 => ("CompassBiasModel", "sxx", "J", false)
  | 7 => ("CompassBiasModel", "sxy", "J", false)
  | 8 => ("CompassBiasModel", "syy", "J", false)
  | 9 => ("CompassBiasModel", "sp", "J", false)
  | 10 => ("CompassBiasModel", "spx", "J", false)
  | 11 => ("CompassBiasModel", "spy", "J", false)
  | 12 => ("CompassBiasModel", "a", "J", false)
  | 13 => ("CompassBiasModel", "b", "J", false)
  | 14 => ("CompassBiasModel", "c", "J", false)
  | _ => ("CompassBiasModel", "by", "J", false)
def tyX3 : Nat → FieldType := fun k => match k with
  | 0 => .array .int
  | 1 => .array .int
  | 2 => .array .boolean
  | 3 => .long
  | 4 => .long
  | 5 => .long
  | 6 => .long
  | 7 => .long
  | 8 => .long
  | 9 => .long
  | 10 => .long
  | 11 => .long
  | 12 => .long
  | 13 => .long
  | 14 => .long
  | _ => .long
abbrev wsX30 : List Cond := u_ws RX3 TX3 16
theorem nmX3 : ∀ a, a < 16 → ∀ b, b < 16 → a ≠ b → (TX3 a).2.1 ≠ (TX3 b).2.1 := by decide +kernel
theorem tyX3_ok : ∀ k, k < 16 → parseFieldDescriptor (TX3 k).2.2.1 = some (tyX3 k) := by decide +kernel
abbrev cX3_init : ByteArray := prog_5_method_1_code
def yX3_init : MethodName := ⟨RX3, "<init>", "()V"⟩
abbrev cX3_in : ByteArray := prog_5_method_2_code
def yX3_in : MethodName := ⟨RX3, "in", "(JJJ)Z"⟩
abbrev cX3_isSample : ByteArray := prog_5_method_3_code
def yX3_isSample : MethodName := ⟨RX3, "isSample", "(I)Z"⟩
abbrev cX3_isHere : ByteArray := prog_5_method_4_code
def yX3_isHere : MethodName := ⟨RX3, "isHere", "(II)Z"⟩
abbrev cX3_size : ByteArray := prog_5_method_5_code
def yX3_size : MethodName := ⟨RX3, "size", "(I)I"⟩
abbrev cX3_power : ByteArray := prog_5_method_6_code
def yX3_power : MethodName := ⟨RX3, "power", "(II)I"⟩
abbrev cX3_add : ByteArray := prog_5_method_7_code
def yX3_add : MethodName := ⟨RX3, "add", "(II)I"⟩
abbrev cX3_clear : ByteArray := prog_5_method_8_code
def yX3_clear : MethodName := ⟨RX3, "clear", "()I"⟩
abbrev cX3_take : ByteArray := prog_5_method_9_code
def yX3_take : MethodName := ⟨RX3, "take", "(II)I"⟩
abbrev cX3_of : ByteArray := prog_5_method_10_code
def yX3_of : MethodName := ⟨RX3, "of", "(II)I"⟩
abbrev cX3_sumOne : ByteArray := prog_5_method_11_code
def yX3_sumOne : MethodName := ⟨RX3, "sumOne", "(II)V"⟩
abbrev cX3_sumSet : ByteArray := prog_5_method_12_code
def yX3_sumSet : MethodName := ⟨RX3, "sumSet", "(I)V"⟩
abbrev cX3_det : ByteArray := prog_5_method_13_code
def yX3_det : MethodName := ⟨RX3, "det", "(JJJJJJJJJ)J"⟩
abbrev cX3_layRound : ByteArray := prog_5_method_14_code
def yX3_layRound : MethodName := ⟨RX3, "layRound", "()V"⟩
abbrev cX3_lay : ByteArray := prog_5_method_15_code
def yX3_lay : MethodName := ⟨RX3, "lay", "(I)Z"⟩
abbrev cX3_layTaken : ByteArray := prog_5_method_16_code
def yX3_layTaken : MethodName := ⟨RX3, "layTaken", "()Z"⟩
abbrev cX3_offOf : ByteArray := prog_5_method_17_code
def yX3_offOf : MethodName := ⟨RX3, "offOf", "(I)J"⟩
abbrev cX3_plain : ByteArray := prog_5_method_18_code
def yX3_plain : MethodName := ⟨RX3, "plain", "(J)J"⟩
abbrev cX3_common : ByteArray := prog_5_method_19_code
def yX3_common : MethodName := ⟨RX3, "common", "(JJ)J"⟩
abbrev cX3_told : ByteArray := prog_5_method_20_code
def yX3_told : MethodName := ⟨RX3, "told", "(JJI)J"⟩
abbrev cX3_round : ByteArray := prog_5_method_21_code
def yX3_round : MethodName := ⟨RX3, "round", "(II)J"⟩
abbrev cX3_middle : ByteArray := prog_5_method_22_code
def yX3_middle : MethodName := ⟨RX3, "middle", "(II)J"⟩
abbrev cX3_off : ByteArray := prog_5_method_23_code
def yX3_off : MethodName := ⟨RX3, "off", "(II)J"⟩
abbrev cX3_worstOf : ByteArray := prog_5_method_24_code
def yX3_worstOf : MethodName := ⟨RX3, "worstOf", "(I)I"⟩
abbrev cX3_worst : ByteArray := prog_5_method_25_code
def yX3_worst : MethodName := ⟨RX3, "worst", "(I)I"⟩
abbrev cX3_eighthOf : ByteArray := prog_5_method_26_code
def yX3_eighthOf : MethodName := ⟨RX3, "eighthOf", "(JJ)I"⟩
abbrev cX3_eighthAt : ByteArray := prog_5_method_27_code
def yX3_eighthAt : MethodName := ⟨RX3, "eighthAt", "(II)I"⟩
abbrev cX3_bit : ByteArray := prog_5_method_28_code
def yX3_bit : MethodName := ⟨RX3, "bit", "(I)I"⟩
abbrev cX3_coverOf : ByteArray := prog_5_method_29_code
def yX3_coverOf : MethodName := ⟨RX3, "coverOf", "(I)I"⟩
abbrev cX3_need : ByteArray := prog_5_method_30_code
def yX3_need : MethodName := ⟨RX3, "need", "(I)I"⟩
abbrev cX3_cover : ByteArray := prog_5_method_31_code
def yX3_cover : MethodName := ⟨RX3, "cover", "()I"⟩
abbrev cX3_isPoor : ByteArray := prog_5_method_32_code
def yX3_isPoor : MethodName := ⟨RX3, "isPoor", "()Z"⟩
abbrev cX3_poor : ByteArray := prog_5_method_33_code
def yX3_poor : MethodName := ⟨RX3, "poor", "()I"⟩
abbrev cX3_eighth : ByteArray := prog_5_method_34_code
def yX3_eighth : MethodName := ⟨RX3, "eighth", "(I)I"⟩
abbrev cX3_points : ByteArray := prog_5_method_35_code
def yX3_points : MethodName := ⟨RX3, "points", "(II)I"⟩
abbrev cX3_bitWith : ByteArray := prog_5_method_36_code
def yX3_bitWith : MethodName := ⟨RX3, "bitWith", "(II)I"⟩
abbrev cX3_helps : ByteArray := prog_5_method_37_code
def yX3_helps : MethodName := ⟨RX3, "helps", "()I"⟩
abbrev cX3_trim : ByteArray := prog_5_method_38_code
def yX3_trim : MethodName := ⟨RX3, "trim", "(I)I"⟩
abbrev cX3_isWithin : ByteArray := prog_5_method_39_code
def yX3_isWithin : MethodName := ⟨RX3, "isWithin", "(II)Z"⟩
abbrev cX3_fewest : ByteArray := prog_5_method_40_code
def yX3_fewest : MethodName := ⟨RX3, "fewest", "(II)I"⟩
abbrev cX3_image : ByteArray := prog_5_method_41_code
def yX3_image : MethodName := ⟨RX3, "image", "(I)I"⟩
abbrev cX3_restore : ByteArray := prog_5_method_42_code
def yX3_restore : MethodName := ⟨RX3, "restore", "(I)I"⟩
abbrev cX3_count : ByteArray := prog_5_method_43_code
def yX3_count : MethodName := ⟨RX3, "count", "(I)I"⟩
def RJ6 : String := "java/lang/Integer"
def TJ6 : u_T := fun k => match k with
  | _ => ("", "", "", false)
def tyJ6 : Nat → FieldType := fun k => match k with
  | _ => .int
abbrev wsJ60 : List Cond := u_ws RJ6 TJ6 0
theorem nmJ6 : ∀ a, a < 0 → ∀ b, b < 0 → a ≠ b → (TJ6 a).2.1 ≠ (TJ6 b).2.1 := by decide +kernel
theorem tyJ6_ok : ∀ k, k < 0 → parseFieldDescriptor (TJ6 k).2.2.1 = some (tyJ6 k) := by decide +kernel
abbrev cJ6_bitCount_0f7a4 : ByteArray := prog_6_method_49_code
def yJ6_bitCount_0f7a4 : MethodName := ⟨RJ6, "bitCount", "(I)I"⟩
def RJ9 : String := "java/lang/Math"
def TJ9 : u_T := fun k => match k with
  | _ => ("", "", "", false)
def tyJ9 : Nat → FieldType := fun k => match k with
  | _ => .int
abbrev wsJ90 : List Cond := u_ws RJ9 TJ9 0
theorem nmJ9 : ∀ a, a < 0 → ∀ b, b < 0 → a ≠ b → (TJ9 a).2.1 ≠ (TJ9 b).2.1 := by decide +kernel
theorem tyJ9_ok : ∀ k, k < 0 → parseFieldDescriptor (TJ9 k).2.2.1 = some (tyJ9 k) := by decide +kernel
abbrev cJ9_abs_067f4 : ByteArray := prog_7_method_61_code
def yJ9_abs_067f4 : MethodName := ⟨RJ9, "abs", "(J)J"⟩
def RL : String := "CompassBiasLaw"
abbrev cL_law : ByteArray := code
def yL_law : MethodName := ⟨RL, "law", "([I)Z"⟩
def wsX0_init : List Cond := .code yX0_init cX0_init 1 none :: ([.methodLink RX0 3 objectInit, .instanceMethod objectInit, .code objectInit ⟨#[0xb1]⟩ 1 none])
def wsX0_empty : List Cond := .code yX0_empty cX0_empty 1 none :: ([.fieldLink RX0 9 "CompassBias$Round" "many" "J", .fieldLink RX0 15 "CompassBias$Round" "sumX" "J", .fieldLink RX0 18 "CompassBias$Round" "sumY" "J", .fieldLink RX0 21 "CompassBias$Round" "sumXX" "J", .fieldLink RX0 24 "CompassBias$Round" "sumXY" "J", .fieldLink RX0 27 "CompassBias$Round" "sumYY" "J", .fieldLink RX0 30 "CompassBias$Round" "sumPower" "J", .fieldLink RX0 33 "CompassBias$Round" "sumXPower" "J", .fieldLink RX0 36 "CompassBias$Round" "sumYPower" "J"] ++ wsX00)
def wsX0_startFrom : List Cond := .code yX0_startFrom cX0_startFrom 2 none :: ([.fieldLink RX0 9 "CompassBias$Round" "many" "J", .fieldLink RX0 15 "CompassBias$Round" "sumX" "J", .fieldLink RX0 18 "CompassBias$Round" "sumY" "J", .fieldLink RX0 21 "CompassBias$Round" "sumXX" "J", .fieldLink RX0 24 "CompassBias$Round" "sumXY" "J", .fieldLink RX0 27 "CompassBias$Round" "sumYY" "J", .fieldLink RX0 30 "CompassBias$Round" "sumPower" "J", .fieldLink RX0 33 "CompassBias$Round" "sumXPower" "J", .fieldLink RX0 36 "CompassBias$Round" "sumYPower" "J"] ++ wsX00)
def wsX2_powerAt : List Cond := .code yX2_powerAt cX2_powerAt 2 (some .int) :: ([])
def wsX0_include : List Cond := .code yX0_include cX0_include 4 none :: ([.fieldLink RX0 9 "CompassBias$Round" "many" "J", .fieldLink RX0 15 "CompassBias$Round" "sumX" "J", .fieldLink RX0 18 "CompassBias$Round" "sumY" "J", .fieldLink RX0 21 "CompassBias$Round" "sumXX" "J", .fieldLink RX0 24 "CompassBias$Round" "sumXY" "J", .fieldLink RX0 27 "CompassBias$Round" "sumYY" "J", .fieldLink RX0 30 "CompassBias$Round" "sumPower" "J", .fieldLink RX0 33 "CompassBias$Round" "sumXPower" "J", .fieldLink RX0 36 "CompassBias$Round" "sumYPower" "J", .static yX2_powerAt, .initialized RX2, .code yX2_powerAt cX2_powerAt 2 (some .int)] ++ wsX00)
def wsX0_lay : List Cond := .code yX0_lay cX0_lay 11 none :: ([.fieldLink RX0 9 "CompassBias$Round" "many" "J", .fieldLink RX0 21 "CompassBias$Round" "sumXX" "J", .fieldLink RX0 15 "CompassBias$Round" "sumX" "J", .fieldLink RX0 24 "CompassBias$Round" "sumXY" "J", .fieldLink RX0 18 "CompassBias$Round" "sumY" "J", .fieldLink RX0 27 "CompassBias$Round" "sumYY" "J", .fieldLink RX0 33 "CompassBias$Round" "sumXPower" "J", .fieldLink RX0 30 "CompassBias$Round" "sumPower" "J", .fieldLink RX0 36 "CompassBias$Round" "sumYPower" "J", .fieldLink RX0 43 "CompassBias$Round" "spread" "J", .fieldLink RX0 46 "CompassBias$Round" "upperA" "J", .fieldLink RX0 49 "CompassBias$Round" "upperB" "J", .fieldLink RX0 52 "CompassBias$Round" "upperC" "J"] ++ wsX00)
def wsX0_isFlat : List Cond := .code yX0_isFlat cX0_isFlat 1 (some .boolean) :: ([.fieldLink RX0 43 "CompassBias$Round" "spread" "J"] ++ wsX00)
def wsX0_fullLower : List Cond := .code yX0_fullLower cX0_fullLower 1 (some .long) :: ([.fieldLink RX0 9 "CompassBias$Round" "many" "J", .fieldLink RX0 43 "CompassBias$Round" "spread" "J"] ++ wsX00)
def wsX0_offUpperAt : List Cond := .code yX0_offUpperAt cX0_offUpperAt 3 (some .long) :: ([.fieldLink RX0 9 "CompassBias$Round" "many" "J", .fieldLink RX0 43 "CompassBias$Round" "spread" "J", .fieldLink RX0 46 "CompassBias$Round" "upperA" "J", .fieldLink RX0 49 "CompassBias$Round" "upperB" "J", .fieldLink RX0 52 "CompassBias$Round" "upperC" "J", .static yX2_powerAt, .initialized RX2, .code yX2_powerAt cX2_powerAt 2 (some .int)] ++ wsX00)
def wsX0_eighthTowards : List Cond := .code yX0_eighthTowards cX0_eighthTowards 4 (some .int) :: ([])
def wsX0_eighthAt : List Cond := .code yX0_eighthAt cX0_eighthAt 3 (some .int) :: ([.constantLong RX0 55 (2), .fieldLink RX0 43 "CompassBias$Round" "spread" "J", .fieldLink RX0 46 "CompassBias$Round" "upperA" "J", .fieldLink RX0 49 "CompassBias$Round" "upperB" "J", .methodLink RX0 57 yX0_eighthTowards, .static yX0_eighthTowards, .initialized RX0, .code yX0_eighthTowards cX0_eighthTowards 4 (some .int)] ++ wsX00)
def wsX1_init : List Cond := .code yX1_init cX1_init 1 none :: ([.methodLink RX1 3 objectInit, .instanceMethod objectInit, .code objectInit ⟨#[0xb1]⟩ 1 none, .arrayClass .int, .fieldLink RX1 9 "CompassBias$Samples" "xs" "[I", .fieldLink RX1 15 "CompassBias$Samples" "ys" "[I", .fieldLink RX1 18 "CompassBias$Samples" "many" "I", .fieldLink RX1 22 "CompassBias$Samples" "taken" "I", .fieldLink RX1 25 "CompassBias$Samples" "needed" "I"] ++ wsX10)
def wsX1_become : List Cond := .code yX1_become cX1_become 3 none :: ([.fieldLink RX1 9 "CompassBias$Samples" "xs" "[I", .fieldLink RX1 15 "CompassBias$Samples" "ys" "[I", .fieldLink RX1 18 "CompassBias$Samples" "many" "I", .fieldLink RX1 22 "CompassBias$Samples" "taken" "I", .fieldLink RX1 25 "CompassBias$Samples" "needed" "I"] ++ wsX10)
def wsX2_init_r1 : List Cond := [Cond.methodLink RX2 3 objectInit, Cond.instanceMethod objectInit, Cond.code objectInit ⟨#[0xb1]⟩ 1 none, Cond.classLink RX2 9 RX1, Cond.instantiable RX1 5, Cond.initialized RX1, Cond.fieldLink RX2 12 "CompassBias" "now" "LCompassBias$Samples;", Cond.fieldLink RX2 16 "CompassBias" "image0" "LCompassBias$Samples;", Cond.fieldLink RX2 19 "CompassBias" "image1" "LCompassBias$Samples;", Cond.fieldLink RX2 22 "CompassBias" "keptImages" "I", Cond.classLink RX2 26 RX0, Cond.instantiable RX0 13, Cond.initialized RX0, Cond.fieldLink RX2 29 "CompassBias" "theRound" "LCompassBias$Round;", Cond.fieldLink RX2 33 "CompassBias" "trial" "LCompassBias$Round;", Cond.methodLink RX2 11 yX1_init, Cond.instanceMethod yX1_init, Cond.code yX1_init cX1_init 1 none, Cond.methodLink RX1 3 objectInit, Cond.arrayClass .int, Cond.fieldLink RX1 9 "CompassBias$Samples" "xs" "[I", Cond.fieldLink RX1 15 "CompassBias$Samples" "ys" "[I", Cond.fieldLink RX1 18 "CompassBias$Samples" "many" "I", Cond.fieldLink RX1 22 "CompassBias$Samples" "taken" "I"]
def wsX2_init_r2 : List Cond := [Cond.fieldLink RX1 25 "CompassBias$Samples" "needed" "I", Cond.instanceMethod yX0_init, Cond.code yX0_init cX0_init 1 none, Cond.methodLink RX0 3 objectInit]
def wsX2_init : List Cond := .code yX2_init cX2_init 1 none :: ((wsX2_init_r1 ++ wsX2_init_r2) ++ wsX10 ++ wsX20 ++ wsX00)
def wsX2_isBetween : List Cond := .code yX2_isBetween cX2_isBetween 3 (some .boolean) :: ([])
def wsX2_isPlace : List Cond := .code yX2_isPlace cX2_isPlace 2 (some .boolean) :: ([.methodLink RX2 57 yX2_isBetween, .static yX2_isBetween, .initialized RX2, .code yX2_isBetween cX2_isBetween 3 (some .boolean)])
def wsX2_add : List Cond := .code yX2_add cX2_add 4 (some .int) :: ([.fieldLink RX2 12 "CompassBias" "now" "LCompassBias$Samples;", .fieldLink RX2 40 "CompassBias$Samples" "many" "I", .fieldLink RX2 43 "CompassBias$Samples" "xs" "[I", .fieldLink RX2 47 "CompassBias$Samples" "ys" "[I", .fieldLink RX2 50 "CompassBias$Samples" "taken" "I", .methodLink RX2 36 yX2_isPlace, .static yX2_isPlace, .initialized RX2, .code yX2_isPlace cX2_isPlace 2 (some .boolean), .methodLink RX2 57 yX2_isBetween, .static yX2_isBetween, .code yX2_isBetween cX2_isBetween 3 (some .boolean)] ++ wsX20 ++ wsX10)
def wsX2_clear : List Cond := .code yX2_clear cX2_clear 2 (some .int) :: ([.fieldLink RX2 12 "CompassBias" "now" "LCompassBias$Samples;", .fieldLink RX2 40 "CompassBias$Samples" "many" "I", .fieldLink RX2 50 "CompassBias$Samples" "taken" "I"] ++ wsX20 ++ wsX10)
def wsX2_isSample : List Cond := .code yX2_isSample cX2_isSample 2 (some .boolean) :: ([.fieldLink RX2 12 "CompassBias" "now" "LCompassBias$Samples;", .fieldLink RX2 40 "CompassBias$Samples" "many" "I"] ++ wsX20 ++ wsX10)
def wsJ6_bitCount_0f7a4 : List Cond := .code yJ6_bitCount_0f7a4 cJ6_bitCount_0f7a4 1 (some .int) :: ([.constant RJ6 265 (1431655765), .constant RJ6 266 (858993459), .constant RJ6 267 (252645135)])
def wsX2_take : List Cond := .code yX2_take cX2_take 3 (some .int) :: ([.fieldLink RX2 12 "CompassBias" "now" "LCompassBias$Samples;", .fieldLink RX2 50 "CompassBias$Samples" "taken" "I", .methodLink RX2 53 yX2_isSample, .instanceMethod yX2_isSample, .selects RX2 yX2_isSample yX2_isSample, .initialized RX2, .code yX2_isSample cX2_isSample 2 (some .boolean), .fieldLink RX2 40 "CompassBias$Samples" "many" "I", .methodLink RX2 57 yX2_isBetween, .static yX2_isBetween, .code yX2_isBetween cX2_isBetween 3 (some .boolean), .methodLink RX2 61 yJ6_bitCount_0f7a4, .static yJ6_bitCount_0f7a4, .initialized RJ6, .code yJ6_bitCount_0f7a4 cJ6_bitCount_0f7a4 1 (some .int), .constant RJ6 265 (1431655765), .constant RJ6 266 (858993459), .constant RJ6 267 (252645135)] ++ wsX20 ++ wsX10)
def wsX2_isIn : List Cond := .code yX2_isIn cX2_isIn 2 (some .boolean) :: ([])
def wsX2_of : List Cond := .code yX2_of cX2_of 3 (some .int) :: ([.fieldLink RX2 12 "CompassBias" "now" "LCompassBias$Samples;", .fieldLink RX2 43 "CompassBias$Samples" "xs" "[I", .fieldLink RX2 47 "CompassBias$Samples" "ys" "[I", .fieldLink RX2 50 "CompassBias$Samples" "taken" "I", .methodLink RX2 53 yX2_isSample, .instanceMethod yX2_isSample, .selects RX2 yX2_isSample yX2_isSample, .initialized RX2, .code yX2_isSample cX2_isSample 2 (some .boolean), .fieldLink RX2 40 "CompassBias$Samples" "many" "I", .methodLink RX2 67 yX2_isIn, .static yX2_isIn, .code yX2_isIn cX2_isIn 2 (some .boolean), .methodLink RX2 70 yX2_powerAt, .static yX2_powerAt, .code yX2_powerAt cX2_powerAt 2 (some .int)] ++ wsX20 ++ wsX10)
def wsX2_sumUp_r1 : List Cond := [Cond.fieldLink RX2 12 "CompassBias" "now" "LCompassBias$Samples;", Cond.fieldLink RX2 43 "CompassBias$Samples" "xs" "[I", Cond.fieldLink RX2 47 "CompassBias$Samples" "ys" "[I", Cond.methodLink RX2 166 yX0_empty, Cond.instanceMethod yX0_empty, Cond.selects RX0 yX0_empty yX0_empty, Cond.initialized RX0, Cond.code yX0_empty cX0_empty 1 none, Cond.fieldLink RX0 9 "CompassBias$Round" "many" "J", Cond.fieldLink RX0 15 "CompassBias$Round" "sumX" "J", Cond.fieldLink RX0 18 "CompassBias$Round" "sumY" "J", Cond.fieldLink RX0 21 "CompassBias$Round" "sumXX" "J", Cond.fieldLink RX0 24 "CompassBias$Round" "sumXY" "J", Cond.fieldLink RX0 27 "CompassBias$Round" "sumYY" "J", Cond.fieldLink RX0 30 "CompassBias$Round" "sumPower" "J", Cond.fieldLink RX0 33 "CompassBias$Round" "sumXPower" "J", Cond.fieldLink RX0 36 "CompassBias$Round" "sumYPower" "J", Cond.methodLink RX2 67 yX2_isIn, Cond.static yX2_isIn, Cond.initialized RX2, Cond.code yX2_isIn cX2_isIn 2 (some .boolean), Cond.methodLink RX2 169 yX0_include, Cond.instanceMethod yX0_include, Cond.selects RX0 yX0_include yX0_include]
def wsX2_sumUp_r2 : List Cond := [Cond.code yX0_include cX0_include 4 none, Cond.static yX2_powerAt, Cond.code yX2_powerAt cX2_powerAt 2 (some .int)]
def wsX2_sumUp : List Cond := .code yX2_sumUp cX2_sumUp 4 none :: ((wsX2_sumUp_r1 ++ wsX2_sumUp_r2) ++ wsX20 ++ wsX10 ++ wsX00)
def wsX2_layTheRound_r1 : List Cond := [Cond.fieldLink RX2 29 "CompassBias" "theRound" "LCompassBias$Round;", Cond.fieldLink RX2 12 "CompassBias" "now" "LCompassBias$Samples;", Cond.fieldLink RX2 50 "CompassBias$Samples" "taken" "I", Cond.methodLink RX2 135 yX2_sumUp, Cond.instanceMethod yX2_sumUp, Cond.selects RX2 yX2_sumUp yX2_sumUp, Cond.initialized RX2, Cond.code yX2_sumUp cX2_sumUp 4 none, Cond.fieldLink RX2 43 "CompassBias$Samples" "xs" "[I", Cond.fieldLink RX2 47 "CompassBias$Samples" "ys" "[I", Cond.methodLink RX2 166 yX0_empty, Cond.instanceMethod yX0_empty, Cond.selects RX0 yX0_empty yX0_empty, Cond.initialized RX0, Cond.code yX0_empty cX0_empty 1 none, Cond.fieldLink RX0 9 "CompassBias$Round" "many" "J", Cond.fieldLink RX0 15 "CompassBias$Round" "sumX" "J", Cond.fieldLink RX0 18 "CompassBias$Round" "sumY" "J", Cond.fieldLink RX0 21 "CompassBias$Round" "sumXX" "J", Cond.fieldLink RX0 24 "CompassBias$Round" "sumXY" "J", Cond.fieldLink RX0 27 "CompassBias$Round" "sumYY" "J", Cond.fieldLink RX0 30 "CompassBias$Round" "sumPower" "J", Cond.fieldLink RX0 33 "CompassBias$Round" "sumXPower" "J", Cond.fieldLink RX0 36 "CompassBias$Round" "sumYPower" "J"]
def wsX2_layTheRound_r2 : List Cond := [Cond.methodLink RX2 67 yX2_isIn, Cond.static yX2_isIn, Cond.code yX2_isIn cX2_isIn 2 (some .boolean), Cond.methodLink RX2 169 yX0_include, Cond.instanceMethod yX0_include, Cond.selects RX0 yX0_include yX0_include, Cond.code yX0_include cX0_include 4 none, Cond.static yX2_powerAt, Cond.code yX2_powerAt cX2_powerAt 2 (some .int), Cond.methodLink RX2 163 yX0_lay, Cond.instanceMethod yX0_lay, Cond.selects RX0 yX0_lay yX0_lay, Cond.code yX0_lay cX0_lay 11 none, Cond.fieldLink RX0 43 "CompassBias$Round" "spread" "J", Cond.fieldLink RX0 46 "CompassBias$Round" "upperA" "J", Cond.fieldLink RX0 49 "CompassBias$Round" "upperB" "J", Cond.fieldLink RX0 52 "CompassBias$Round" "upperC" "J"]
def wsX2_layTheRound : List Cond := .code yX2_layTheRound cX2_layTheRound 1 none :: ((wsX2_layTheRound_r1 ++ wsX2_layTheRound_r2) ++ wsX20 ++ wsX10 ++ wsX00)
def wsX2_greatestDivisor : List Cond := .code yX2_greatestDivisor cX2_greatestDivisor 11 (some .long) :: ([])
def wsX2_partOfLowest : List Cond := .code yX2_partOfLowest cX2_partOfLowest 7 (some .long) :: ([.methodLink RX2 153 Lib.MathLoose.abs_long.x, .static Lib.MathLoose.abs_long.x, .initialized "java/lang/Math", .code Lib.MathLoose.abs_long.x Lib.MathLoose.abs_long.code 2 (some .long), .methodLink RX2 159 yX2_greatestDivisor, .static yX2_greatestDivisor, .initialized RX2, .code yX2_greatestDivisor cX2_greatestDivisor 11 (some .long)])
def wsX2_round_r1 : List Cond := [Cond.constantLong RX2 74 (-1000000000000000002), Cond.fieldLink RX2 29 "CompassBias" "theRound" "LCompassBias$Round;", Cond.constantLong RX2 83 (-1000000000000000005), Cond.fieldLink RX2 85 "CompassBias$Round" "upperC" "J", Cond.fieldLink RX2 97 "CompassBias$Round" "upperA" "J", Cond.fieldLink RX2 100 "CompassBias$Round" "upperB" "J", Cond.fieldLink RX2 103 "CompassBias$Round" "spread" "J", Cond.methodLink RX2 57 yX2_isBetween, Cond.static yX2_isBetween, Cond.initialized RX2, Cond.code yX2_isBetween cX2_isBetween 3 (some .boolean), Cond.methodLink RX2 76 yX2_layTheRound, Cond.instanceMethod yX2_layTheRound, Cond.selects RX2 yX2_layTheRound yX2_layTheRound, Cond.code yX2_layTheRound cX2_layTheRound 1 none, Cond.fieldLink RX2 12 "CompassBias" "now" "LCompassBias$Samples;", Cond.fieldLink RX2 50 "CompassBias$Samples" "taken" "I", Cond.methodLink RX2 135 yX2_sumUp, Cond.instanceMethod yX2_sumUp, Cond.selects RX2 yX2_sumUp yX2_sumUp, Cond.code yX2_sumUp cX2_sumUp 4 none, Cond.fieldLink RX2 43 "CompassBias$Samples" "xs" "[I", Cond.fieldLink RX2 47 "CompassBias$Samples" "ys" "[I", Cond.methodLink RX2 166 yX0_empty]
def wsX2_round_r2 : List Cond := [Cond.instanceMethod yX0_empty, Cond.selects RX0 yX0_empty yX0_empty, Cond.initialized RX0, Cond.code yX0_empty cX0_empty 1 none, Cond.fieldLink RX0 9 "CompassBias$Round" "many" "J", Cond.fieldLink RX0 15 "CompassBias$Round" "sumX" "J", Cond.fieldLink RX0 18 "CompassBias$Round" "sumY" "J", Cond.fieldLink RX0 21 "CompassBias$Round" "sumXX" "J", Cond.fieldLink RX0 24 "CompassBias$Round" "sumXY" "J", Cond.fieldLink RX0 27 "CompassBias$Round" "sumYY" "J", Cond.fieldLink RX0 30 "CompassBias$Round" "sumPower" "J", Cond.fieldLink RX0 33 "CompassBias$Round" "sumXPower" "J", Cond.fieldLink RX0 36 "CompassBias$Round" "sumYPower" "J", Cond.methodLink RX2 67 yX2_isIn, Cond.static yX2_isIn, Cond.code yX2_isIn cX2_isIn 2 (some .boolean), Cond.methodLink RX2 169 yX0_include, Cond.instanceMethod yX0_include, Cond.selects RX0 yX0_include yX0_include, Cond.code yX0_include cX0_include 4 none, Cond.static yX2_powerAt, Cond.code yX2_powerAt cX2_powerAt 2 (some .int), Cond.methodLink RX2 163 yX0_lay, Cond.instanceMethod yX0_lay]
def wsX2_round_r3 : List Cond := [Cond.selects RX0 yX0_lay yX0_lay, Cond.code yX0_lay cX0_lay 11 none, Cond.fieldLink RX0 43 "CompassBias$Round" "spread" "J", Cond.fieldLink RX0 46 "CompassBias$Round" "upperA" "J", Cond.fieldLink RX0 49 "CompassBias$Round" "upperB" "J", Cond.fieldLink RX0 52 "CompassBias$Round" "upperC" "J", Cond.methodLink RX2 79 yX0_isFlat, Cond.instanceMethod yX0_isFlat, Cond.selects RX0 yX0_isFlat yX0_isFlat, Cond.code yX0_isFlat cX0_isFlat 1 (some .boolean), Cond.methodLink RX2 89 yX0_fullLower, Cond.instanceMethod yX0_fullLower, Cond.selects RX0 yX0_fullLower yX0_fullLower, Cond.code yX0_fullLower cX0_fullLower 1 (some .long), Cond.methodLink RX2 93 yX2_partOfLowest, Cond.static yX2_partOfLowest, Cond.code yX2_partOfLowest cX2_partOfLowest 7 (some .long), Cond.methodLink RX2 153 Lib.MathLoose.abs_long.x, Cond.static Lib.MathLoose.abs_long.x, Cond.initialized "java/lang/Math", Cond.code Lib.MathLoose.abs_long.x Lib.MathLoose.abs_long.code 2 (some .long), Cond.methodLink RX2 159 yX2_greatestDivisor, Cond.static yX2_greatestDivisor, Cond.code yX2_greatestDivisor cX2_greatestDivisor 11 (some .long)]
def wsX2_round : List Cond := .code yX2_round cX2_round 3 (some .long) :: ((wsX2_round_r1 ++ (wsX2_round_r2 ++ wsX2_round_r3)) ++ wsX20 ++ wsX00 ++ wsX10)
def wsX2_middle_r1 : List Cond := [Cond.constantLong RX2 74 (-1000000000000000002), Cond.fieldLink RX2 29 "CompassBias" "theRound" "LCompassBias$Round;", Cond.constantLong RX2 83 (-1000000000000000005), Cond.fieldLink RX2 97 "CompassBias$Round" "upperA" "J", Cond.fieldLink RX2 100 "CompassBias$Round" "upperB" "J", Cond.constantLong RX2 106 (2), Cond.fieldLink RX2 103 "CompassBias$Round" "spread" "J", Cond.methodLink RX2 57 yX2_isBetween, Cond.static yX2_isBetween, Cond.initialized RX2, Cond.code yX2_isBetween cX2_isBetween 3 (some .boolean), Cond.methodLink RX2 76 yX2_layTheRound, Cond.instanceMethod yX2_layTheRound, Cond.selects RX2 yX2_layTheRound yX2_layTheRound, Cond.code yX2_layTheRound cX2_layTheRound 1 none, Cond.fieldLink RX2 12 "CompassBias" "now" "LCompassBias$Samples;", Cond.fieldLink RX2 50 "CompassBias$Samples" "taken" "I", Cond.methodLink RX2 135 yX2_sumUp, Cond.instanceMethod yX2_sumUp, Cond.selects RX2 yX2_sumUp yX2_sumUp, Cond.code yX2_sumUp cX2_sumUp 4 none, Cond.fieldLink RX2 43 "CompassBias$Samples" "xs" "[I", Cond.fieldLink RX2 47 "CompassBias$Samples" "ys" "[I", Cond.methodLink RX2 166 yX0_empty]
def wsX2_middle_r2 : List Cond := [Cond.instanceMethod yX0_empty, Cond.selects RX0 yX0_empty yX0_empty, Cond.initialized RX0, Cond.code yX0_empty cX0_empty 1 none, Cond.fieldLink RX0 9 "CompassBias$Round" "many" "J", Cond.fieldLink RX0 15 "CompassBias$Round" "sumX" "J", Cond.fieldLink RX0 18 "CompassBias$Round" "sumY" "J", Cond.fieldLink RX0 21 "CompassBias$Round" "sumXX" "J", Cond.fieldLink RX0 24 "CompassBias$Round" "sumXY" "J", Cond.fieldLink RX0 27 "CompassBias$Round" "sumYY" "J", Cond.fieldLink RX0 30 "CompassBias$Round" "sumPower" "J", Cond.fieldLink RX0 33 "CompassBias$Round" "sumXPower" "J", Cond.fieldLink RX0 36 "CompassBias$Round" "sumYPower" "J", Cond.methodLink RX2 67 yX2_isIn, Cond.static yX2_isIn, Cond.code yX2_isIn cX2_isIn 2 (some .boolean), Cond.methodLink RX2 169 yX0_include, Cond.instanceMethod yX0_include, Cond.selects RX0 yX0_include yX0_include, Cond.code yX0_include cX0_include 4 none, Cond.static yX2_powerAt, Cond.code yX2_powerAt cX2_powerAt 2 (some .int), Cond.methodLink RX2 163 yX0_lay, Cond.instanceMethod yX0_lay]
def wsX2_middle_r3 : List Cond := [Cond.selects RX0 yX0_lay yX0_lay, Cond.code yX0_lay cX0_lay 11 none, Cond.fieldLink RX0 43 "CompassBias$Round" "spread" "J", Cond.fieldLink RX0 46 "CompassBias$Round" "upperA" "J", Cond.fieldLink RX0 49 "CompassBias$Round" "upperB" "J", Cond.fieldLink RX0 52 "CompassBias$Round" "upperC" "J", Cond.methodLink RX2 79 yX0_isFlat, Cond.instanceMethod yX0_isFlat, Cond.selects RX0 yX0_isFlat yX0_isFlat, Cond.code yX0_isFlat cX0_isFlat 1 (some .boolean), Cond.methodLink RX2 93 yX2_partOfLowest, Cond.static yX2_partOfLowest, Cond.code yX2_partOfLowest cX2_partOfLowest 7 (some .long), Cond.methodLink RX2 153 Lib.MathLoose.abs_long.x, Cond.static Lib.MathLoose.abs_long.x, Cond.initialized "java/lang/Math", Cond.code Lib.MathLoose.abs_long.x Lib.MathLoose.abs_long.code 2 (some .long), Cond.methodLink RX2 159 yX2_greatestDivisor, Cond.static yX2_greatestDivisor, Cond.code yX2_greatestDivisor cX2_greatestDivisor 11 (some .long)]
def wsX2_middle : List Cond := .code yX2_middle cX2_middle 3 (some .long) :: ((wsX2_middle_r1 ++ (wsX2_middle_r2 ++ wsX2_middle_r3)) ++ wsX20 ++ wsX00 ++ wsX10)
def wsX2_off_r1 : List Cond := [Cond.constantLong RX2 108 (-1000000000000000001), Cond.constantLong RX2 74 (-1000000000000000002), Cond.fieldLink RX2 29 "CompassBias" "theRound" "LCompassBias$Round;", Cond.constantLong RX2 83 (-1000000000000000005), Cond.fieldLink RX2 12 "CompassBias" "now" "LCompassBias$Samples;", Cond.fieldLink RX2 43 "CompassBias$Samples" "xs" "[I", Cond.fieldLink RX2 47 "CompassBias$Samples" "ys" "[I", Cond.methodLink RX2 53 yX2_isSample, Cond.instanceMethod yX2_isSample, Cond.selects RX2 yX2_isSample yX2_isSample, Cond.initialized RX2, Cond.code yX2_isSample cX2_isSample 2 (some .boolean), Cond.fieldLink RX2 40 "CompassBias$Samples" "many" "I", Cond.methodLink RX2 57 yX2_isBetween, Cond.static yX2_isBetween, Cond.code yX2_isBetween cX2_isBetween 3 (some .boolean), Cond.methodLink RX2 76 yX2_layTheRound, Cond.instanceMethod yX2_layTheRound, Cond.selects RX2 yX2_layTheRound yX2_layTheRound, Cond.code yX2_layTheRound cX2_layTheRound 1 none, Cond.fieldLink RX2 50 "CompassBias$Samples" "taken" "I", Cond.methodLink RX2 135 yX2_sumUp, Cond.instanceMethod yX2_sumUp, Cond.selects RX2 yX2_sumUp yX2_sumUp]
def wsX2_off_r2 : List Cond := [Cond.code yX2_sumUp cX2_sumUp 4 none, Cond.methodLink RX2 166 yX0_empty, Cond.instanceMethod yX0_empty, Cond.selects RX0 yX0_empty yX0_empty, Cond.initialized RX0, Cond.code yX0_empty cX0_empty 1 none, Cond.fieldLink RX0 9 "CompassBias$Round" "many" "J", Cond.fieldLink RX0 15 "CompassBias$Round" "sumX" "J", Cond.fieldLink RX0 18 "CompassBias$Round" "sumY" "J", Cond.fieldLink RX0 21 "CompassBias$Round" "sumXX" "J", Cond.fieldLink RX0 24 "CompassBias$Round" "sumXY" "J", Cond.fieldLink RX0 27 "CompassBias$Round" "sumYY" "J", Cond.fieldLink RX0 30 "CompassBias$Round" "sumPower" "J", Cond.fieldLink RX0 33 "CompassBias$Round" "sumXPower" "J", Cond.fieldLink RX0 36 "CompassBias$Round" "sumYPower" "J", Cond.methodLink RX2 67 yX2_isIn, Cond.static yX2_isIn, Cond.code yX2_isIn cX2_isIn 2 (some .boolean), Cond.methodLink RX2 169 yX0_include, Cond.instanceMethod yX0_include, Cond.selects RX0 yX0_include yX0_include, Cond.code yX0_include cX0_include 4 none, Cond.static yX2_powerAt, Cond.code yX2_powerAt cX2_powerAt 2 (some .int)]
def wsX2_off_r3 : List Cond := [Cond.methodLink RX2 163 yX0_lay, Cond.instanceMethod yX0_lay, Cond.selects RX0 yX0_lay yX0_lay, Cond.code yX0_lay cX0_lay 11 none, Cond.fieldLink RX0 43 "CompassBias$Round" "spread" "J", Cond.fieldLink RX0 46 "CompassBias$Round" "upperA" "J", Cond.fieldLink RX0 49 "CompassBias$Round" "upperB" "J", Cond.fieldLink RX0 52 "CompassBias$Round" "upperC" "J", Cond.methodLink RX2 79 yX0_isFlat, Cond.instanceMethod yX0_isFlat, Cond.selects RX0 yX0_isFlat yX0_isFlat, Cond.code yX0_isFlat cX0_isFlat 1 (some .boolean), Cond.methodLink RX2 110 yX0_offUpperAt, Cond.instanceMethod yX0_offUpperAt, Cond.selects RX0 yX0_offUpperAt yX0_offUpperAt, Cond.code yX0_offUpperAt cX0_offUpperAt 3 (some .long), Cond.methodLink RX2 89 yX0_fullLower, Cond.instanceMethod yX0_fullLower, Cond.selects RX0 yX0_fullLower yX0_fullLower, Cond.code yX0_fullLower cX0_fullLower 1 (some .long), Cond.methodLink RX2 93 yX2_partOfLowest, Cond.static yX2_partOfLowest, Cond.code yX2_partOfLowest cX2_partOfLowest 7 (some .long), Cond.methodLink RX2 153 Lib.MathLoose.abs_long.x]
def wsX2_off_r4 : List Cond := [Cond.static Lib.MathLoose.abs_long.x, Cond.initialized "java/lang/Math", Cond.code Lib.MathLoose.abs_long.x Lib.MathLoose.abs_long.code 2 (some .long), Cond.methodLink RX2 159 yX2_greatestDivisor, Cond.static yX2_greatestDivisor, Cond.code yX2_greatestDivisor cX2_greatestDivisor 11 (some .long)]
def wsX2_off : List Cond := .code yX2_off cX2_off 5 (some .long) :: ((wsX2_off_r1 ++ (wsX2_off_r2 ++ (wsX2_off_r3 ++ wsX2_off_r4))) ++ wsX20 ++ wsX10 ++ wsX00)
def wsX2_sizeUpper_r1 : List Cond := [Cond.fieldLink RX2 12 "CompassBias" "now" "LCompassBias$Samples;", Cond.fieldLink RX2 43 "CompassBias$Samples" "xs" "[I", Cond.fieldLink RX2 47 "CompassBias$Samples" "ys" "[I", Cond.methodLink RX2 153 Lib.MathLoose.abs_long.x, Cond.static Lib.MathLoose.abs_long.x, Cond.initialized "java/lang/Math", Cond.code Lib.MathLoose.abs_long.x Lib.MathLoose.abs_long.code 2 (some .long), Cond.methodLink RX2 53 yX2_isSample, Cond.instanceMethod yX2_isSample, Cond.selects RX2 yX2_isSample yX2_isSample, Cond.initialized RX2, Cond.code yX2_isSample cX2_isSample 2 (some .boolean), Cond.fieldLink RX2 40 "CompassBias$Samples" "many" "I", Cond.methodLink RX2 110 yX0_offUpperAt, Cond.instanceMethod yX0_offUpperAt, Cond.selects RX0 yX0_offUpperAt yX0_offUpperAt, Cond.initialized RX0, Cond.code yX0_offUpperAt cX0_offUpperAt 3 (some .long), Cond.fieldLink RX0 9 "CompassBias$Round" "many" "J", Cond.fieldLink RX0 43 "CompassBias$Round" "spread" "J", Cond.fieldLink RX0 46 "CompassBias$Round" "upperA" "J", Cond.fieldLink RX0 49 "CompassBias$Round" "upperB" "J", Cond.fieldLink RX0 52 "CompassBias$Round" "upperC" "J", Cond.static yX2_powerAt]
def wsX2_sizeUpper_r2 : List Cond := [Cond.code yX2_powerAt cX2_powerAt 2 (some .int)]
def wsX2_sizeUpper : List Cond := .code yX2_sizeUpper cX2_sizeUpper 3 (some .long) :: ((wsX2_sizeUpper_r1 ++ wsX2_sizeUpper_r2) ++ wsX20 ++ wsX10 ++ wsX00)
def wsX2_worstSample_r1 : List Cond := [Cond.constantLong RX2 173 (-1), Cond.fieldLink RX2 12 "CompassBias" "now" "LCompassBias$Samples;", Cond.fieldLink RX2 50 "CompassBias$Samples" "taken" "I", Cond.fieldLink RX2 29 "CompassBias" "theRound" "LCompassBias$Round;", Cond.methodLink RX2 67 yX2_isIn, Cond.static yX2_isIn, Cond.initialized RX2, Cond.code yX2_isIn cX2_isIn 2 (some .boolean), Cond.methodLink RX2 118 yX2_sizeUpper, Cond.instanceMethod yX2_sizeUpper, Cond.selects RX2 yX2_sizeUpper yX2_sizeUpper, Cond.code yX2_sizeUpper cX2_sizeUpper 3 (some .long), Cond.fieldLink RX2 43 "CompassBias$Samples" "xs" "[I", Cond.fieldLink RX2 47 "CompassBias$Samples" "ys" "[I", Cond.methodLink RX2 153 Lib.MathLoose.abs_long.x, Cond.static Lib.MathLoose.abs_long.x, Cond.initialized "java/lang/Math", Cond.code Lib.MathLoose.abs_long.x Lib.MathLoose.abs_long.code 2 (some .long), Cond.methodLink RX2 53 yX2_isSample, Cond.instanceMethod yX2_isSample, Cond.selects RX2 yX2_isSample yX2_isSample, Cond.code yX2_isSample cX2_isSample 2 (some .boolean), Cond.fieldLink RX2 40 "CompassBias$Samples" "many" "I", Cond.methodLink RX2 110 yX0_offUpperAt]
def wsX2_worstSample_r2 : List Cond := [Cond.instanceMethod yX0_offUpperAt, Cond.selects RX0 yX0_offUpperAt yX0_offUpperAt, Cond.initialized RX0, Cond.code yX0_offUpperAt cX0_offUpperAt 3 (some .long), Cond.fieldLink RX0 9 "CompassBias$Round" "many" "J", Cond.fieldLink RX0 43 "CompassBias$Round" "spread" "J", Cond.fieldLink RX0 46 "CompassBias$Round" "upperA" "J", Cond.fieldLink RX0 49 "CompassBias$Round" "upperB" "J", Cond.fieldLink RX0 52 "CompassBias$Round" "upperC" "J", Cond.static yX2_powerAt, Cond.code yX2_powerAt cX2_powerAt 2 (some .int)]
def wsX2_worstSample : List Cond := .code yX2_worstSample cX2_worstSample 7 (some .int) :: ((wsX2_worstSample_r1 ++ wsX2_worstSample_r2) ++ wsX20 ++ wsX10 ++ wsX00)
def wsX2_worst_r1 : List Cond := [Cond.fieldLink RX2 29 "CompassBias" "theRound" "LCompassBias$Round;", Cond.methodLink RX2 57 yX2_isBetween, Cond.static yX2_isBetween, Cond.initialized RX2, Cond.code yX2_isBetween cX2_isBetween 3 (some .boolean), Cond.methodLink RX2 76 yX2_layTheRound, Cond.instanceMethod yX2_layTheRound, Cond.selects RX2 yX2_layTheRound yX2_layTheRound, Cond.code yX2_layTheRound cX2_layTheRound 1 none, Cond.fieldLink RX2 12 "CompassBias" "now" "LCompassBias$Samples;", Cond.fieldLink RX2 50 "CompassBias$Samples" "taken" "I", Cond.methodLink RX2 135 yX2_sumUp, Cond.instanceMethod yX2_sumUp, Cond.selects RX2 yX2_sumUp yX2_sumUp, Cond.code yX2_sumUp cX2_sumUp 4 none, Cond.fieldLink RX2 43 "CompassBias$Samples" "xs" "[I", Cond.fieldLink RX2 47 "CompassBias$Samples" "ys" "[I", Cond.methodLink RX2 166 yX0_empty, Cond.instanceMethod yX0_empty, Cond.selects RX0 yX0_empty yX0_empty, Cond.initialized RX0, Cond.code yX0_empty cX0_empty 1 none, Cond.fieldLink RX0 9 "CompassBias$Round" "many" "J", Cond.fieldLink RX0 15 "CompassBias$Round" "sumX" "J"]
def wsX2_worst_r2 : List Cond := [Cond.fieldLink RX0 18 "CompassBias$Round" "sumY" "J", Cond.fieldLink RX0 21 "CompassBias$Round" "sumXX" "J", Cond.fieldLink RX0 24 "CompassBias$Round" "sumXY" "J", Cond.fieldLink RX0 27 "CompassBias$Round" "sumYY" "J", Cond.fieldLink RX0 30 "CompassBias$Round" "sumPower" "J", Cond.fieldLink RX0 33 "CompassBias$Round" "sumXPower" "J", Cond.fieldLink RX0 36 "CompassBias$Round" "sumYPower" "J", Cond.methodLink RX2 67 yX2_isIn, Cond.static yX2_isIn, Cond.code yX2_isIn cX2_isIn 2 (some .boolean), Cond.methodLink RX2 169 yX0_include, Cond.instanceMethod yX0_include, Cond.selects RX0 yX0_include yX0_include, Cond.code yX0_include cX0_include 4 none, Cond.static yX2_powerAt, Cond.code yX2_powerAt cX2_powerAt 2 (some .int), Cond.methodLink RX2 163 yX0_lay, Cond.instanceMethod yX0_lay, Cond.selects RX0 yX0_lay yX0_lay, Cond.code yX0_lay cX0_lay 11 none, Cond.fieldLink RX0 43 "CompassBias$Round" "spread" "J", Cond.fieldLink RX0 46 "CompassBias$Round" "upperA" "J", Cond.fieldLink RX0 49 "CompassBias$Round" "upperB" "J", Cond.fieldLink RX0 52 "CompassBias$Round" "upperC" "J"]
def wsX2_worst_r3 : List Cond := [Cond.methodLink RX2 79 yX0_isFlat, Cond.instanceMethod yX0_isFlat, Cond.selects RX0 yX0_isFlat yX0_isFlat, Cond.code yX0_isFlat cX0_isFlat 1 (some .boolean), Cond.methodLink RX2 114 yX2_worstSample, Cond.instanceMethod yX2_worstSample, Cond.selects RX2 yX2_worstSample yX2_worstSample, Cond.code yX2_worstSample cX2_worstSample 7 (some .int), Cond.constantLong RX2 173 (-1), Cond.methodLink RX2 118 yX2_sizeUpper, Cond.instanceMethod yX2_sizeUpper, Cond.selects RX2 yX2_sizeUpper yX2_sizeUpper, Cond.code yX2_sizeUpper cX2_sizeUpper 3 (some .long), Cond.methodLink RX2 153 Lib.MathLoose.abs_long.x, Cond.static Lib.MathLoose.abs_long.x, Cond.initialized "java/lang/Math", Cond.code Lib.MathLoose.abs_long.x Lib.MathLoose.abs_long.code 2 (some .long), Cond.methodLink RX2 53 yX2_isSample, Cond.instanceMethod yX2_isSample, Cond.selects RX2 yX2_isSample yX2_isSample, Cond.code yX2_isSample cX2_isSample 2 (some .boolean), Cond.fieldLink RX2 40 "CompassBias$Samples" "many" "I", Cond.methodLink RX2 110 yX0_offUpperAt, Cond.instanceMethod yX0_offUpperAt]
def wsX2_worst_r4 : List Cond := [Cond.selects RX0 yX0_offUpperAt yX0_offUpperAt, Cond.code yX0_offUpperAt cX0_offUpperAt 3 (some .long), Cond.methodLink RX2 89 yX0_fullLower, Cond.instanceMethod yX0_fullLower, Cond.selects RX0 yX0_fullLower yX0_fullLower, Cond.code yX0_fullLower cX0_fullLower 1 (some .long)]
def wsX2_worst : List Cond := .code yX2_worst cX2_worst 5 (some .int) :: ((wsX2_worst_r1 ++ (wsX2_worst_r2 ++ (wsX2_worst_r3 ++ wsX2_worst_r4))) ++ wsX20 ++ wsX10 ++ wsX00)
def wsX2_need : List Cond := .code yX2_need cX2_need 3 (some .int) :: ([.fieldLink RX2 12 "CompassBias" "now" "LCompassBias$Samples;", .fieldLink RX2 122 "CompassBias$Samples" "needed" "I", .methodLink RX2 57 yX2_isBetween, .static yX2_isBetween, .initialized RX2, .code yX2_isBetween cX2_isBetween 3 (some .boolean)] ++ wsX20 ++ wsX10)
def wsX2_setOfEighth : List Cond := .code yX2_setOfEighth cX2_setOfEighth 1 (some .int) :: ([])
def wsX2_coverBy : List Cond := .code yX2_coverBy cX2_coverBy 4 (some .int) :: ([.fieldLink RX2 12 "CompassBias" "now" "LCompassBias$Samples;", .fieldLink RX2 50 "CompassBias$Samples" "taken" "I", .fieldLink RX2 43 "CompassBias$Samples" "xs" "[I", .fieldLink RX2 47 "CompassBias$Samples" "ys" "[I", .methodLink RX2 67 yX2_isIn, .static yX2_isIn, .initialized RX2, .code yX2_isIn cX2_isIn 2 (some .boolean), .methodLink RX2 132 yX0_eighthAt, .instanceMethod yX0_eighthAt, .selects RX0 yX0_eighthAt yX0_eighthAt, .initialized RX0, .code yX0_eighthAt cX0_eighthAt 3 (some .int), .constantLong RX0 55 (2), .fieldLink RX0 43 "CompassBias$Round" "spread" "J", .fieldLink RX0 46 "CompassBias$Round" "upperA" "J", .fieldLink RX0 49 "CompassBias$Round" "upperB" "J", .methodLink RX0 57 yX0_eighthTowards, .static yX0_eighthTowards, .code yX0_eighthTowards cX0_eighthTowards 4 (some .int), .methodLink RX2 175 yX2_setOfEighth, .static yX2_setOfEighth, .code yX2_setOfEighth cX2_setOfEighth 1 (some .int)] ++ wsX20 ++ wsX10 ++ wsX00)
def wsX2_cover_r1 : List Cond := [Cond.fieldLink RX2 29 "CompassBias" "theRound" "LCompassBias$Round;", Cond.methodLink RX2 76 yX2_layTheRound, Cond.instanceMethod yX2_layTheRound, Cond.selects RX2 yX2_layTheRound yX2_layTheRound, Cond.initialized RX2, Cond.code yX2_layTheRound cX2_layTheRound 1 none, Cond.fieldLink RX2 12 "CompassBias" "now" "LCompassBias$Samples;", Cond.fieldLink RX2 50 "CompassBias$Samples" "taken" "I", Cond.methodLink RX2 135 yX2_sumUp, Cond.instanceMethod yX2_sumUp, Cond.selects RX2 yX2_sumUp yX2_sumUp, Cond.code yX2_sumUp cX2_sumUp 4 none, Cond.fieldLink RX2 43 "CompassBias$Samples" "xs" "[I", Cond.fieldLink RX2 47 "CompassBias$Samples" "ys" "[I", Cond.methodLink RX2 166 yX0_empty, Cond.instanceMethod yX0_empty, Cond.selects RX0 yX0_empty yX0_empty, Cond.initialized RX0, Cond.code yX0_empty cX0_empty 1 none, Cond.fieldLink RX0 9 "CompassBias$Round" "many" "J", Cond.fieldLink RX0 15 "CompassBias$Round" "sumX" "J", Cond.fieldLink RX0 18 "CompassBias$Round" "sumY" "J", Cond.fieldLink RX0 21 "CompassBias$Round" "sumXX" "J", Cond.fieldLink RX0 24 "CompassBias$Round" "sumXY" "J"]
def wsX2_cover_r2 : List Cond := [Cond.fieldLink RX0 27 "CompassBias$Round" "sumYY" "J", Cond.fieldLink RX0 30 "CompassBias$Round" "sumPower" "J", Cond.fieldLink RX0 33 "CompassBias$Round" "sumXPower" "J", Cond.fieldLink RX0 36 "CompassBias$Round" "sumYPower" "J", Cond.methodLink RX2 67 yX2_isIn, Cond.static yX2_isIn, Cond.code yX2_isIn cX2_isIn 2 (some .boolean), Cond.methodLink RX2 169 yX0_include, Cond.instanceMethod yX0_include, Cond.selects RX0 yX0_include yX0_include, Cond.code yX0_include cX0_include 4 none, Cond.static yX2_powerAt, Cond.code yX2_powerAt cX2_powerAt 2 (some .int), Cond.methodLink RX2 163 yX0_lay, Cond.instanceMethod yX0_lay, Cond.selects RX0 yX0_lay yX0_lay, Cond.code yX0_lay cX0_lay 11 none, Cond.fieldLink RX0 43 "CompassBias$Round" "spread" "J", Cond.fieldLink RX0 46 "CompassBias$Round" "upperA" "J", Cond.fieldLink RX0 49 "CompassBias$Round" "upperB" "J", Cond.fieldLink RX0 52 "CompassBias$Round" "upperC" "J", Cond.methodLink RX2 79 yX0_isFlat, Cond.instanceMethod yX0_isFlat, Cond.selects RX0 yX0_isFlat yX0_isFlat]
def wsX2_cover_r3 : List Cond := [Cond.code yX0_isFlat cX0_isFlat 1 (some .boolean), Cond.methodLink RX2 125 yX2_coverBy, Cond.instanceMethod yX2_coverBy, Cond.selects RX2 yX2_coverBy yX2_coverBy, Cond.code yX2_coverBy cX2_coverBy 4 (some .int), Cond.methodLink RX2 132 yX0_eighthAt, Cond.instanceMethod yX0_eighthAt, Cond.selects RX0 yX0_eighthAt yX0_eighthAt, Cond.code yX0_eighthAt cX0_eighthAt 3 (some .int), Cond.constantLong RX0 55 (2), Cond.methodLink RX0 57 yX0_eighthTowards, Cond.static yX0_eighthTowards, Cond.code yX0_eighthTowards cX0_eighthTowards 4 (some .int), Cond.methodLink RX2 175 yX2_setOfEighth, Cond.static yX2_setOfEighth, Cond.code yX2_setOfEighth cX2_setOfEighth 1 (some .int)]
def wsX2_cover : List Cond := .code yX2_cover cX2_cover 1 (some .int) :: ((wsX2_cover_r1 ++ (wsX2_cover_r2 ++ wsX2_cover_r3)) ++ wsX20 ++ wsX10 ++ wsX00)
def wsX2_isTheRoundPoor_r1 : List Cond := [Cond.fieldLink RX2 29 "CompassBias" "theRound" "LCompassBias$Round;", Cond.fieldLink RX2 12 "CompassBias" "now" "LCompassBias$Samples;", Cond.fieldLink RX2 122 "CompassBias$Samples" "needed" "I", Cond.methodLink RX2 79 yX0_isFlat, Cond.instanceMethod yX0_isFlat, Cond.selects RX0 yX0_isFlat yX0_isFlat, Cond.initialized RX0, Cond.code yX0_isFlat cX0_isFlat 1 (some .boolean), Cond.fieldLink RX0 43 "CompassBias$Round" "spread" "J", Cond.methodLink RX2 125 yX2_coverBy, Cond.instanceMethod yX2_coverBy, Cond.selects RX2 yX2_coverBy yX2_coverBy, Cond.initialized RX2, Cond.code yX2_coverBy cX2_coverBy 4 (some .int), Cond.fieldLink RX2 50 "CompassBias$Samples" "taken" "I", Cond.fieldLink RX2 43 "CompassBias$Samples" "xs" "[I", Cond.fieldLink RX2 47 "CompassBias$Samples" "ys" "[I", Cond.methodLink RX2 67 yX2_isIn, Cond.static yX2_isIn, Cond.code yX2_isIn cX2_isIn 2 (some .boolean), Cond.methodLink RX2 132 yX0_eighthAt, Cond.instanceMethod yX0_eighthAt, Cond.selects RX0 yX0_eighthAt yX0_eighthAt, Cond.code yX0_eighthAt cX0_eighthAt 3 (some .int)]
def wsX2_isTheRoundPoor_r2 : List Cond := [Cond.constantLong RX0 55 (2), Cond.fieldLink RX0 46 "CompassBias$Round" "upperA" "J", Cond.fieldLink RX0 49 "CompassBias$Round" "upperB" "J", Cond.methodLink RX0 57 yX0_eighthTowards, Cond.static yX0_eighthTowards, Cond.code yX0_eighthTowards cX0_eighthTowards 4 (some .int), Cond.methodLink RX2 175 yX2_setOfEighth, Cond.static yX2_setOfEighth, Cond.code yX2_setOfEighth cX2_setOfEighth 1 (some .int), Cond.methodLink RX2 61 yJ6_bitCount_0f7a4, Cond.static yJ6_bitCount_0f7a4, Cond.initialized RJ6, Cond.code yJ6_bitCount_0f7a4 cJ6_bitCount_0f7a4 1 (some .int), Cond.constant RJ6 265 (1431655765), Cond.constant RJ6 266 (858993459), Cond.constant RJ6 267 (252645135)]
def wsX2_isTheRoundPoor : List Cond := .code yX2_isTheRoundPoor cX2_isTheRoundPoor 1 (some .boolean) :: ((wsX2_isTheRoundPoor_r1 ++ wsX2_isTheRoundPoor_r2) ++ wsX20 ++ wsX10 ++ wsX00)
def wsX2_poor_r1 : List Cond := [Cond.methodLink RX2 76 yX2_layTheRound, Cond.instanceMethod yX2_layTheRound, Cond.selects RX2 yX2_layTheRound yX2_layTheRound, Cond.initialized RX2, Cond.code yX2_layTheRound cX2_layTheRound 1 none, Cond.fieldLink RX2 29 "CompassBias" "theRound" "LCompassBias$Round;", Cond.fieldLink RX2 12 "CompassBias" "now" "LCompassBias$Samples;", Cond.fieldLink RX2 50 "CompassBias$Samples" "taken" "I", Cond.methodLink RX2 135 yX2_sumUp, Cond.instanceMethod yX2_sumUp, Cond.selects RX2 yX2_sumUp yX2_sumUp, Cond.code yX2_sumUp cX2_sumUp 4 none, Cond.fieldLink RX2 43 "CompassBias$Samples" "xs" "[I", Cond.fieldLink RX2 47 "CompassBias$Samples" "ys" "[I", Cond.methodLink RX2 166 yX0_empty, Cond.instanceMethod yX0_empty, Cond.selects RX0 yX0_empty yX0_empty, Cond.initialized RX0, Cond.code yX0_empty cX0_empty 1 none, Cond.fieldLink RX0 9 "CompassBias$Round" "many" "J", Cond.fieldLink RX0 15 "CompassBias$Round" "sumX" "J", Cond.fieldLink RX0 18 "CompassBias$Round" "sumY" "J", Cond.fieldLink RX0 21 "CompassBias$Round" "sumXX" "J", Cond.fieldLink RX0 24 "CompassBias$Round" "sumXY" "J"]
def wsX2_poor_r2 : List Cond := [Cond.fieldLink RX0 27 "CompassBias$Round" "sumYY" "J", Cond.fieldLink RX0 30 "CompassBias$Round" "sumPower" "J", Cond.fieldLink RX0 33 "CompassBias$Round" "sumXPower" "J", Cond.fieldLink RX0 36 "CompassBias$Round" "sumYPower" "J", Cond.methodLink RX2 67 yX2_isIn, Cond.static yX2_isIn, Cond.code yX2_isIn cX2_isIn 2 (some .boolean), Cond.methodLink RX2 169 yX0_include, Cond.instanceMethod yX0_include, Cond.selects RX0 yX0_include yX0_include, Cond.code yX0_include cX0_include 4 none, Cond.static yX2_powerAt, Cond.code yX2_powerAt cX2_powerAt 2 (some .int), Cond.methodLink RX2 163 yX0_lay, Cond.instanceMethod yX0_lay, Cond.selects RX0 yX0_lay yX0_lay, Cond.code yX0_lay cX0_lay 11 none, Cond.fieldLink RX0 43 "CompassBias$Round" "spread" "J", Cond.fieldLink RX0 46 "CompassBias$Round" "upperA" "J", Cond.fieldLink RX0 49 "CompassBias$Round" "upperB" "J", Cond.fieldLink RX0 52 "CompassBias$Round" "upperC" "J", Cond.methodLink RX2 129 yX2_isTheRoundPoor, Cond.instanceMethod yX2_isTheRoundPoor, Cond.selects RX2 yX2_isTheRoundPoor yX2_isTheRoundPoor]
def wsX2_poor_r3 : List Cond := [Cond.code yX2_isTheRoundPoor cX2_isTheRoundPoor 1 (some .boolean), Cond.fieldLink RX2 122 "CompassBias$Samples" "needed" "I", Cond.methodLink RX2 79 yX0_isFlat, Cond.instanceMethod yX0_isFlat, Cond.selects RX0 yX0_isFlat yX0_isFlat, Cond.code yX0_isFlat cX0_isFlat 1 (some .boolean), Cond.methodLink RX2 125 yX2_coverBy, Cond.instanceMethod yX2_coverBy, Cond.selects RX2 yX2_coverBy yX2_coverBy, Cond.code yX2_coverBy cX2_coverBy 4 (some .int), Cond.methodLink RX2 132 yX0_eighthAt, Cond.instanceMethod yX0_eighthAt, Cond.selects RX0 yX0_eighthAt yX0_eighthAt, Cond.code yX0_eighthAt cX0_eighthAt 3 (some .int), Cond.constantLong RX0 55 (2), Cond.methodLink RX0 57 yX0_eighthTowards, Cond.static yX0_eighthTowards, Cond.code yX0_eighthTowards cX0_eighthTowards 4 (some .int), Cond.methodLink RX2 175 yX2_setOfEighth, Cond.static yX2_setOfEighth, Cond.code yX2_setOfEighth cX2_setOfEighth 1 (some .int), Cond.methodLink RX2 61 yJ6_bitCount_0f7a4, Cond.static yJ6_bitCount_0f7a4, Cond.initialized RJ6]
def wsX2_poor_r4 : List Cond := [Cond.code yJ6_bitCount_0f7a4 cJ6_bitCount_0f7a4 1 (some .int), Cond.constant RJ6 265 (1431655765), Cond.constant RJ6 266 (858993459), Cond.constant RJ6 267 (252645135)]
def wsX2_poor : List Cond := .code yX2_poor cX2_poor 1 (some .int) :: ((wsX2_poor_r1 ++ (wsX2_poor_r2 ++ (wsX2_poor_r3 ++ wsX2_poor_r4))) ++ wsX20 ++ wsX10 ++ wsX00)
def wsX2_eighth_r1 : List Cond := [Cond.fieldLink RX2 29 "CompassBias" "theRound" "LCompassBias$Round;", Cond.fieldLink RX2 12 "CompassBias" "now" "LCompassBias$Samples;", Cond.fieldLink RX2 43 "CompassBias$Samples" "xs" "[I", Cond.fieldLink RX2 47 "CompassBias$Samples" "ys" "[I", Cond.methodLink RX2 53 yX2_isSample, Cond.instanceMethod yX2_isSample, Cond.selects RX2 yX2_isSample yX2_isSample, Cond.initialized RX2, Cond.code yX2_isSample cX2_isSample 2 (some .boolean), Cond.fieldLink RX2 40 "CompassBias$Samples" "many" "I", Cond.methodLink RX2 76 yX2_layTheRound, Cond.instanceMethod yX2_layTheRound, Cond.selects RX2 yX2_layTheRound yX2_layTheRound, Cond.code yX2_layTheRound cX2_layTheRound 1 none, Cond.fieldLink RX2 50 "CompassBias$Samples" "taken" "I", Cond.methodLink RX2 135 yX2_sumUp, Cond.instanceMethod yX2_sumUp, Cond.selects RX2 yX2_sumUp yX2_sumUp, Cond.code yX2_sumUp cX2_sumUp 4 none, Cond.methodLink RX2 166 yX0_empty, Cond.instanceMethod yX0_empty, Cond.selects RX0 yX0_empty yX0_empty, Cond.initialized RX0, Cond.code yX0_empty cX0_empty 1 none]
def wsX2_eighth_r2 : List Cond := [Cond.fieldLink RX0 9 "CompassBias$Round" "many" "J", Cond.fieldLink RX0 15 "CompassBias$Round" "sumX" "J", Cond.fieldLink RX0 18 "CompassBias$Round" "sumY" "J", Cond.fieldLink RX0 21 "CompassBias$Round" "sumXX" "J", Cond.fieldLink RX0 24 "CompassBias$Round" "sumXY" "J", Cond.fieldLink RX0 27 "CompassBias$Round" "sumYY" "J", Cond.fieldLink RX0 30 "CompassBias$Round" "sumPower" "J", Cond.fieldLink RX0 33 "CompassBias$Round" "sumXPower" "J", Cond.fieldLink RX0 36 "CompassBias$Round" "sumYPower" "J", Cond.methodLink RX2 67 yX2_isIn, Cond.static yX2_isIn, Cond.code yX2_isIn cX2_isIn 2 (some .boolean), Cond.methodLink RX2 169 yX0_include, Cond.instanceMethod yX0_include, Cond.selects RX0 yX0_include yX0_include, Cond.code yX0_include cX0_include 4 none, Cond.static yX2_powerAt, Cond.code yX2_powerAt cX2_powerAt 2 (some .int), Cond.methodLink RX2 163 yX0_lay, Cond.instanceMethod yX0_lay, Cond.selects RX0 yX0_lay yX0_lay, Cond.code yX0_lay cX0_lay 11 none, Cond.fieldLink RX0 43 "CompassBias$Round" "spread" "J", Cond.fieldLink RX0 46 "CompassBias$Round" "upperA" "J"]
def wsX2_eighth_r3 : List Cond := [Cond.fieldLink RX0 49 "CompassBias$Round" "upperB" "J", Cond.fieldLink RX0 52 "CompassBias$Round" "upperC" "J", Cond.methodLink RX2 79 yX0_isFlat, Cond.instanceMethod yX0_isFlat, Cond.selects RX0 yX0_isFlat yX0_isFlat, Cond.code yX0_isFlat cX0_isFlat 1 (some .boolean), Cond.methodLink RX2 132 yX0_eighthAt, Cond.instanceMethod yX0_eighthAt, Cond.selects RX0 yX0_eighthAt yX0_eighthAt, Cond.code yX0_eighthAt cX0_eighthAt 3 (some .int), Cond.constantLong RX0 55 (2), Cond.methodLink RX0 57 yX0_eighthTowards, Cond.static yX0_eighthTowards, Cond.code yX0_eighthTowards cX0_eighthTowards 4 (some .int)]
def wsX2_eighth : List Cond := .code yX2_eighth cX2_eighth 2 (some .int) :: ((wsX2_eighth_r1 ++ (wsX2_eighth_r2 ++ wsX2_eighth_r3)) ++ wsX20 ++ wsX10 ++ wsX00)
def wsX2_points_r1 : List Cond := [Cond.fieldLink RX2 29 "CompassBias" "theRound" "LCompassBias$Round;", Cond.methodLink RX2 36 yX2_isPlace, Cond.static yX2_isPlace, Cond.initialized RX2, Cond.code yX2_isPlace cX2_isPlace 2 (some .boolean), Cond.methodLink RX2 57 yX2_isBetween, Cond.static yX2_isBetween, Cond.code yX2_isBetween cX2_isBetween 3 (some .boolean), Cond.methodLink RX2 76 yX2_layTheRound, Cond.instanceMethod yX2_layTheRound, Cond.selects RX2 yX2_layTheRound yX2_layTheRound, Cond.code yX2_layTheRound cX2_layTheRound 1 none, Cond.fieldLink RX2 12 "CompassBias" "now" "LCompassBias$Samples;", Cond.fieldLink RX2 50 "CompassBias$Samples" "taken" "I", Cond.methodLink RX2 135 yX2_sumUp, Cond.instanceMethod yX2_sumUp, Cond.selects RX2 yX2_sumUp yX2_sumUp, Cond.code yX2_sumUp cX2_sumUp 4 none, Cond.fieldLink RX2 43 "CompassBias$Samples" "xs" "[I", Cond.fieldLink RX2 47 "CompassBias$Samples" "ys" "[I", Cond.methodLink RX2 166 yX0_empty, Cond.instanceMethod yX0_empty, Cond.selects RX0 yX0_empty yX0_empty, Cond.initialized RX0]
def wsX2_points_r2 : List Cond := [Cond.code yX0_empty cX0_empty 1 none, Cond.fieldLink RX0 9 "CompassBias$Round" "many" "J", Cond.fieldLink RX0 15 "CompassBias$Round" "sumX" "J", Cond.fieldLink RX0 18 "CompassBias$Round" "sumY" "J", Cond.fieldLink RX0 21 "CompassBias$Round" "sumXX" "J", Cond.fieldLink RX0 24 "CompassBias$Round" "sumXY" "J", Cond.fieldLink RX0 27 "CompassBias$Round" "sumYY" "J", Cond.fieldLink RX0 30 "CompassBias$Round" "sumPower" "J", Cond.fieldLink RX0 33 "CompassBias$Round" "sumXPower" "J", Cond.fieldLink RX0 36 "CompassBias$Round" "sumYPower" "J", Cond.methodLink RX2 67 yX2_isIn, Cond.static yX2_isIn, Cond.code yX2_isIn cX2_isIn 2 (some .boolean), Cond.methodLink RX2 169 yX0_include, Cond.instanceMethod yX0_include, Cond.selects RX0 yX0_include yX0_include, Cond.code yX0_include cX0_include 4 none, Cond.static yX2_powerAt, Cond.code yX2_powerAt cX2_powerAt 2 (some .int), Cond.methodLink RX2 163 yX0_lay, Cond.instanceMethod yX0_lay, Cond.selects RX0 yX0_lay yX0_lay, Cond.code yX0_lay cX0_lay 11 none, Cond.fieldLink RX0 43 "CompassBias$Round" "spread" "J"]
def wsX2_points_r3 : List Cond := [Cond.fieldLink RX0 46 "CompassBias$Round" "upperA" "J", Cond.fieldLink RX0 49 "CompassBias$Round" "upperB" "J", Cond.fieldLink RX0 52 "CompassBias$Round" "upperC" "J", Cond.methodLink RX2 129 yX2_isTheRoundPoor, Cond.instanceMethod yX2_isTheRoundPoor, Cond.selects RX2 yX2_isTheRoundPoor yX2_isTheRoundPoor, Cond.code yX2_isTheRoundPoor cX2_isTheRoundPoor 1 (some .boolean), Cond.fieldLink RX2 122 "CompassBias$Samples" "needed" "I", Cond.methodLink RX2 79 yX0_isFlat, Cond.instanceMethod yX0_isFlat, Cond.selects RX0 yX0_isFlat yX0_isFlat, Cond.code yX0_isFlat cX0_isFlat 1 (some .boolean), Cond.methodLink RX2 125 yX2_coverBy, Cond.instanceMethod yX2_coverBy, Cond.selects RX2 yX2_coverBy yX2_coverBy, Cond.code yX2_coverBy cX2_coverBy 4 (some .int), Cond.methodLink RX2 132 yX0_eighthAt, Cond.instanceMethod yX0_eighthAt, Cond.selects RX0 yX0_eighthAt yX0_eighthAt, Cond.code yX0_eighthAt cX0_eighthAt 3 (some .int), Cond.constantLong RX0 55 (2), Cond.methodLink RX0 57 yX0_eighthTowards, Cond.static yX0_eighthTowards, Cond.code yX0_eighthTowards cX0_eighthTowards 4 (some .int)]
def wsX2_points_r4 : List Cond := [Cond.methodLink RX2 175 yX2_setOfEighth, Cond.static yX2_setOfEighth, Cond.code yX2_setOfEighth cX2_setOfEighth 1 (some .int), Cond.methodLink RX2 61 yJ6_bitCount_0f7a4, Cond.static yJ6_bitCount_0f7a4, Cond.initialized RJ6, Cond.code yJ6_bitCount_0f7a4 cJ6_bitCount_0f7a4 1 (some .int), Cond.constant RJ6 265 (1431655765), Cond.constant RJ6 266 (858993459), Cond.constant RJ6 267 (252645135)]
def wsX2_points : List Cond := .code yX2_points cX2_points 3 (some .int) :: ((wsX2_points_r1 ++ (wsX2_points_r2 ++ (wsX2_points_r3 ++ wsX2_points_r4))) ++ wsX20 ++ wsX10 ++ wsX00)
def wsX2_helpAt_r1 : List Cond := [Cond.fieldLink RX2 33 "CompassBias" "trial" "LCompassBias$Round;", Cond.fieldLink RX2 29 "CompassBias" "theRound" "LCompassBias$Round;", Cond.fieldLink RX2 12 "CompassBias" "now" "LCompassBias$Samples;", Cond.fieldLink RX2 122 "CompassBias$Samples" "needed" "I", Cond.methodLink RX2 178 yX0_startFrom, Cond.instanceMethod yX0_startFrom, Cond.selects RX0 yX0_startFrom yX0_startFrom, Cond.initialized RX0, Cond.code yX0_startFrom cX0_startFrom 2 none, Cond.fieldLink RX0 9 "CompassBias$Round" "many" "J", Cond.fieldLink RX0 15 "CompassBias$Round" "sumX" "J", Cond.fieldLink RX0 18 "CompassBias$Round" "sumY" "J", Cond.fieldLink RX0 21 "CompassBias$Round" "sumXX" "J", Cond.fieldLink RX0 24 "CompassBias$Round" "sumXY" "J", Cond.fieldLink RX0 27 "CompassBias$Round" "sumYY" "J", Cond.fieldLink RX0 30 "CompassBias$Round" "sumPower" "J", Cond.fieldLink RX0 33 "CompassBias$Round" "sumXPower" "J", Cond.fieldLink RX0 36 "CompassBias$Round" "sumYPower" "J", Cond.methodLink RX2 169 yX0_include, Cond.instanceMethod yX0_include, Cond.selects RX0 yX0_include yX0_include, Cond.code yX0_include cX0_include 4 none, Cond.static yX2_powerAt, Cond.initialized RX2]
def wsX2_helpAt_r2 : List Cond := [Cond.code yX2_powerAt cX2_powerAt 2 (some .int), Cond.methodLink RX2 163 yX0_lay, Cond.instanceMethod yX0_lay, Cond.selects RX0 yX0_lay yX0_lay, Cond.code yX0_lay cX0_lay 11 none, Cond.fieldLink RX0 43 "CompassBias$Round" "spread" "J", Cond.fieldLink RX0 46 "CompassBias$Round" "upperA" "J", Cond.fieldLink RX0 49 "CompassBias$Round" "upperB" "J", Cond.fieldLink RX0 52 "CompassBias$Round" "upperC" "J", Cond.methodLink RX2 79 yX0_isFlat, Cond.instanceMethod yX0_isFlat, Cond.selects RX0 yX0_isFlat yX0_isFlat, Cond.code yX0_isFlat cX0_isFlat 1 (some .boolean), Cond.methodLink RX2 132 yX0_eighthAt, Cond.instanceMethod yX0_eighthAt, Cond.selects RX0 yX0_eighthAt yX0_eighthAt, Cond.code yX0_eighthAt cX0_eighthAt 3 (some .int), Cond.constantLong RX0 55 (2), Cond.methodLink RX0 57 yX0_eighthTowards, Cond.static yX0_eighthTowards, Cond.code yX0_eighthTowards cX0_eighthTowards 4 (some .int), Cond.methodLink RX2 175 yX2_setOfEighth, Cond.static yX2_setOfEighth, Cond.code yX2_setOfEighth cX2_setOfEighth 1 (some .int)]
def wsX2_helpAt_r3 : List Cond := [Cond.methodLink RX2 125 yX2_coverBy, Cond.instanceMethod yX2_coverBy, Cond.selects RX2 yX2_coverBy yX2_coverBy, Cond.code yX2_coverBy cX2_coverBy 4 (some .int), Cond.fieldLink RX2 50 "CompassBias$Samples" "taken" "I", Cond.fieldLink RX2 43 "CompassBias$Samples" "xs" "[I", Cond.fieldLink RX2 47 "CompassBias$Samples" "ys" "[I", Cond.methodLink RX2 67 yX2_isIn, Cond.static yX2_isIn, Cond.code yX2_isIn cX2_isIn 2 (some .boolean), Cond.methodLink RX2 61 yJ6_bitCount_0f7a4, Cond.static yJ6_bitCount_0f7a4, Cond.initialized RJ6, Cond.code yJ6_bitCount_0f7a4 cJ6_bitCount_0f7a4 1 (some .int), Cond.constant RJ6 265 (1431655765), Cond.constant RJ6 266 (858993459), Cond.constant RJ6 267 (252645135)]
def wsX2_helpAt : List Cond := .code yX2_helpAt cX2_helpAt 6 (some .int) :: ((wsX2_helpAt_r1 ++ (wsX2_helpAt_r2 ++ wsX2_helpAt_r3)) ++ wsX20 ++ wsX10 ++ wsX00)
def wsX2_helps_r1 : List Cond := [Cond.fieldLink RX2 12 "CompassBias" "now" "LCompassBias$Samples;", Cond.fieldLink RX2 40 "CompassBias$Samples" "many" "I", Cond.fieldLink RX2 50 "CompassBias$Samples" "taken" "I", Cond.fieldLink RX2 122 "CompassBias$Samples" "needed" "I", Cond.fieldLink RX2 29 "CompassBias" "theRound" "LCompassBias$Round;", Cond.methodLink RX2 61 yJ6_bitCount_0f7a4, Cond.static yJ6_bitCount_0f7a4, Cond.initialized RJ6, Cond.code yJ6_bitCount_0f7a4 cJ6_bitCount_0f7a4 1 (some .int), Cond.constant RJ6 265 (1431655765), Cond.constant RJ6 266 (858993459), Cond.constant RJ6 267 (252645135), Cond.methodLink RX2 135 yX2_sumUp, Cond.instanceMethod yX2_sumUp, Cond.selects RX2 yX2_sumUp yX2_sumUp, Cond.initialized RX2, Cond.code yX2_sumUp cX2_sumUp 4 none, Cond.fieldLink RX2 43 "CompassBias$Samples" "xs" "[I", Cond.fieldLink RX2 47 "CompassBias$Samples" "ys" "[I", Cond.methodLink RX2 166 yX0_empty, Cond.instanceMethod yX0_empty, Cond.selects RX0 yX0_empty yX0_empty, Cond.initialized RX0, Cond.code yX0_empty cX0_empty 1 none]
def wsX2_helps_r2 : List Cond := [Cond.fieldLink RX0 9 "CompassBias$Round" "many" "J", Cond.fieldLink RX0 15 "CompassBias$Round" "sumX" "J", Cond.fieldLink RX0 18 "CompassBias$Round" "sumY" "J", Cond.fieldLink RX0 21 "CompassBias$Round" "sumXX" "J", Cond.fieldLink RX0 24 "CompassBias$Round" "sumXY" "J", Cond.fieldLink RX0 27 "CompassBias$Round" "sumYY" "J", Cond.fieldLink RX0 30 "CompassBias$Round" "sumPower" "J", Cond.fieldLink RX0 33 "CompassBias$Round" "sumXPower" "J", Cond.fieldLink RX0 36 "CompassBias$Round" "sumYPower" "J", Cond.methodLink RX2 67 yX2_isIn, Cond.static yX2_isIn, Cond.code yX2_isIn cX2_isIn 2 (some .boolean), Cond.methodLink RX2 169 yX0_include, Cond.instanceMethod yX0_include, Cond.selects RX0 yX0_include yX0_include, Cond.code yX0_include cX0_include 4 none, Cond.static yX2_powerAt, Cond.code yX2_powerAt cX2_powerAt 2 (some .int), Cond.methodLink RX2 139 yX2_helpAt, Cond.instanceMethod yX2_helpAt, Cond.selects RX2 yX2_helpAt yX2_helpAt, Cond.code yX2_helpAt cX2_helpAt 6 (some .int), Cond.fieldLink RX2 33 "CompassBias" "trial" "LCompassBias$Round;", Cond.methodLink RX2 178 yX0_startFrom]
def wsX2_helps_r3 : List Cond := [Cond.instanceMethod yX0_startFrom, Cond.selects RX0 yX0_startFrom yX0_startFrom, Cond.code yX0_startFrom cX0_startFrom 2 none, Cond.methodLink RX2 163 yX0_lay, Cond.instanceMethod yX0_lay, Cond.selects RX0 yX0_lay yX0_lay, Cond.code yX0_lay cX0_lay 11 none, Cond.fieldLink RX0 43 "CompassBias$Round" "spread" "J", Cond.fieldLink RX0 46 "CompassBias$Round" "upperA" "J", Cond.fieldLink RX0 49 "CompassBias$Round" "upperB" "J", Cond.fieldLink RX0 52 "CompassBias$Round" "upperC" "J", Cond.methodLink RX2 79 yX0_isFlat, Cond.instanceMethod yX0_isFlat, Cond.selects RX0 yX0_isFlat yX0_isFlat, Cond.code yX0_isFlat cX0_isFlat 1 (some .boolean), Cond.methodLink RX2 132 yX0_eighthAt, Cond.instanceMethod yX0_eighthAt, Cond.selects RX0 yX0_eighthAt yX0_eighthAt, Cond.code yX0_eighthAt cX0_eighthAt 3 (some .int), Cond.constantLong RX0 55 (2), Cond.methodLink RX0 57 yX0_eighthTowards, Cond.static yX0_eighthTowards, Cond.code yX0_eighthTowards cX0_eighthTowards 4 (some .int), Cond.methodLink RX2 175 yX2_setOfEighth]
def wsX2_helps_r4 : List Cond := [Cond.static yX2_setOfEighth, Cond.code yX2_setOfEighth cX2_setOfEighth 1 (some .int), Cond.methodLink RX2 125 yX2_coverBy, Cond.instanceMethod yX2_coverBy, Cond.selects RX2 yX2_coverBy yX2_coverBy, Cond.code yX2_coverBy cX2_coverBy 4 (some .int)]
def wsX2_helps : List Cond := .code yX2_helps cX2_helps 4 (some .int) :: ((wsX2_helps_r1 ++ (wsX2_helps_r2 ++ (wsX2_helps_r3 ++ wsX2_helps_r4))) ++ wsX20 ++ wsX10 ++ wsX00)
def wsX2_isSizeAbove_r1 : List Cond := [Cond.methodLink RX2 118 yX2_sizeUpper, Cond.instanceMethod yX2_sizeUpper, Cond.selects RX2 yX2_sizeUpper yX2_sizeUpper, Cond.initialized RX2, Cond.code yX2_sizeUpper cX2_sizeUpper 3 (some .long), Cond.fieldLink RX2 12 "CompassBias" "now" "LCompassBias$Samples;", Cond.fieldLink RX2 43 "CompassBias$Samples" "xs" "[I", Cond.fieldLink RX2 47 "CompassBias$Samples" "ys" "[I", Cond.methodLink RX2 153 Lib.MathLoose.abs_long.x, Cond.static Lib.MathLoose.abs_long.x, Cond.initialized "java/lang/Math", Cond.code Lib.MathLoose.abs_long.x Lib.MathLoose.abs_long.code 2 (some .long), Cond.methodLink RX2 53 yX2_isSample, Cond.instanceMethod yX2_isSample, Cond.selects RX2 yX2_isSample yX2_isSample, Cond.code yX2_isSample cX2_isSample 2 (some .boolean), Cond.fieldLink RX2 40 "CompassBias$Samples" "many" "I", Cond.methodLink RX2 110 yX0_offUpperAt, Cond.instanceMethod yX0_offUpperAt, Cond.selects RX0 yX0_offUpperAt yX0_offUpperAt, Cond.initialized RX0, Cond.code yX0_offUpperAt cX0_offUpperAt 3 (some .long), Cond.fieldLink RX0 9 "CompassBias$Round" "many" "J", Cond.fieldLink RX0 43 "CompassBias$Round" "spread" "J"]
def wsX2_isSizeAbove_r2 : List Cond := [Cond.fieldLink RX0 46 "CompassBias$Round" "upperA" "J", Cond.fieldLink RX0 49 "CompassBias$Round" "upperB" "J", Cond.fieldLink RX0 52 "CompassBias$Round" "upperC" "J", Cond.static yX2_powerAt, Cond.code yX2_powerAt cX2_powerAt 2 (some .int), Cond.methodLink RX2 89 yX0_fullLower, Cond.instanceMethod yX0_fullLower, Cond.selects RX0 yX0_fullLower yX0_fullLower, Cond.code yX0_fullLower cX0_fullLower 1 (some .long)]
def wsX2_isSizeAbove : List Cond := .code yX2_isSizeAbove cX2_isSizeAbove 4 (some .boolean) :: ((wsX2_isSizeAbove_r1 ++ wsX2_isSizeAbove_r2) ++ wsX20 ++ wsX10 ++ wsX00)
def wsX2_isToTrim_r1 : List Cond := [Cond.fieldLink RX2 12 "CompassBias" "now" "LCompassBias$Samples;", Cond.fieldLink RX2 50 "CompassBias$Samples" "taken" "I", Cond.fieldLink RX2 29 "CompassBias" "theRound" "LCompassBias$Round;", Cond.methodLink RX2 61 yJ6_bitCount_0f7a4, Cond.static yJ6_bitCount_0f7a4, Cond.initialized RJ6, Cond.code yJ6_bitCount_0f7a4 cJ6_bitCount_0f7a4 1 (some .int), Cond.constant RJ6 265 (1431655765), Cond.constant RJ6 266 (858993459), Cond.constant RJ6 267 (252645135), Cond.methodLink RX2 79 yX0_isFlat, Cond.instanceMethod yX0_isFlat, Cond.selects RX0 yX0_isFlat yX0_isFlat, Cond.initialized RX0, Cond.code yX0_isFlat cX0_isFlat 1 (some .boolean), Cond.fieldLink RX0 43 "CompassBias$Round" "spread" "J", Cond.methodLink RX2 114 yX2_worstSample, Cond.instanceMethod yX2_worstSample, Cond.selects RX2 yX2_worstSample yX2_worstSample, Cond.initialized RX2, Cond.code yX2_worstSample cX2_worstSample 7 (some .int), Cond.constantLong RX2 173 (-1), Cond.methodLink RX2 67 yX2_isIn, Cond.static yX2_isIn]
def wsX2_isToTrim_r2 : List Cond := [Cond.code yX2_isIn cX2_isIn 2 (some .boolean), Cond.methodLink RX2 118 yX2_sizeUpper, Cond.instanceMethod yX2_sizeUpper, Cond.selects RX2 yX2_sizeUpper yX2_sizeUpper, Cond.code yX2_sizeUpper cX2_sizeUpper 3 (some .long), Cond.fieldLink RX2 43 "CompassBias$Samples" "xs" "[I", Cond.fieldLink RX2 47 "CompassBias$Samples" "ys" "[I", Cond.methodLink RX2 153 Lib.MathLoose.abs_long.x, Cond.static Lib.MathLoose.abs_long.x, Cond.initialized "java/lang/Math", Cond.code Lib.MathLoose.abs_long.x Lib.MathLoose.abs_long.code 2 (some .long), Cond.methodLink RX2 53 yX2_isSample, Cond.instanceMethod yX2_isSample, Cond.selects RX2 yX2_isSample yX2_isSample, Cond.code yX2_isSample cX2_isSample 2 (some .boolean), Cond.fieldLink RX2 40 "CompassBias$Samples" "many" "I", Cond.methodLink RX2 110 yX0_offUpperAt, Cond.instanceMethod yX0_offUpperAt, Cond.selects RX0 yX0_offUpperAt yX0_offUpperAt, Cond.code yX0_offUpperAt cX0_offUpperAt 3 (some .long), Cond.fieldLink RX0 9 "CompassBias$Round" "many" "J", Cond.fieldLink RX0 46 "CompassBias$Round" "upperA" "J", Cond.fieldLink RX0 49 "CompassBias$Round" "upperB" "J", Cond.fieldLink RX0 52 "CompassBias$Round" "upperC" "J"]
def wsX2_isToTrim_r3 : List Cond := [Cond.static yX2_powerAt, Cond.code yX2_powerAt cX2_powerAt 2 (some .int), Cond.methodLink RX2 182 yX2_isSizeAbove, Cond.instanceMethod yX2_isSizeAbove, Cond.selects RX2 yX2_isSizeAbove yX2_isSizeAbove, Cond.code yX2_isSizeAbove cX2_isSizeAbove 4 (some .boolean), Cond.methodLink RX2 89 yX0_fullLower, Cond.instanceMethod yX0_fullLower, Cond.selects RX0 yX0_fullLower yX0_fullLower, Cond.code yX0_fullLower cX0_fullLower 1 (some .long)]
def wsX2_isToTrim : List Cond := .code yX2_isToTrim cX2_isToTrim 2 (some .boolean) :: ((wsX2_isToTrim_r1 ++ (wsX2_isToTrim_r2 ++ wsX2_isToTrim_r3)) ++ wsX20 ++ wsX10 ++ wsX00)
def wsX2_trim_r1 : List Cond := [Cond.fieldLink RX2 29 "CompassBias" "theRound" "LCompassBias$Round;", Cond.fieldLink RX2 12 "CompassBias" "now" "LCompassBias$Samples;", Cond.fieldLink RX2 50 "CompassBias$Samples" "taken" "I", Cond.methodLink RX2 57 yX2_isBetween, Cond.static yX2_isBetween, Cond.initialized RX2, Cond.code yX2_isBetween cX2_isBetween 3 (some .boolean), Cond.methodLink RX2 76 yX2_layTheRound, Cond.instanceMethod yX2_layTheRound, Cond.selects RX2 yX2_layTheRound yX2_layTheRound, Cond.code yX2_layTheRound cX2_layTheRound 1 none, Cond.methodLink RX2 135 yX2_sumUp, Cond.instanceMethod yX2_sumUp, Cond.selects RX2 yX2_sumUp yX2_sumUp, Cond.code yX2_sumUp cX2_sumUp 4 none, Cond.fieldLink RX2 43 "CompassBias$Samples" "xs" "[I", Cond.fieldLink RX2 47 "CompassBias$Samples" "ys" "[I", Cond.methodLink RX2 166 yX0_empty, Cond.instanceMethod yX0_empty, Cond.selects RX0 yX0_empty yX0_empty, Cond.initialized RX0, Cond.code yX0_empty cX0_empty 1 none, Cond.fieldLink RX0 9 "CompassBias$Round" "many" "J", Cond.fieldLink RX0 15 "CompassBias$Round" "sumX" "J"]
def wsX2_trim_r2 : List Cond := [Cond.fieldLink RX0 18 "CompassBias$Round" "sumY" "J", Cond.fieldLink RX0 21 "CompassBias$Round" "sumXX" "J", Cond.fieldLink RX0 24 "CompassBias$Round" "sumXY" "J", Cond.fieldLink RX0 27 "CompassBias$Round" "sumYY" "J", Cond.fieldLink RX0 30 "CompassBias$Round" "sumPower" "J", Cond.fieldLink RX0 33 "CompassBias$Round" "sumXPower" "J", Cond.fieldLink RX0 36 "CompassBias$Round" "sumYPower" "J", Cond.methodLink RX2 67 yX2_isIn, Cond.static yX2_isIn, Cond.code yX2_isIn cX2_isIn 2 (some .boolean), Cond.methodLink RX2 169 yX0_include, Cond.instanceMethod yX0_include, Cond.selects RX0 yX0_include yX0_include, Cond.code yX0_include cX0_include 4 none, Cond.static yX2_powerAt, Cond.code yX2_powerAt cX2_powerAt 2 (some .int), Cond.methodLink RX2 163 yX0_lay, Cond.instanceMethod yX0_lay, Cond.selects RX0 yX0_lay yX0_lay, Cond.code yX0_lay cX0_lay 11 none, Cond.fieldLink RX0 43 "CompassBias$Round" "spread" "J", Cond.fieldLink RX0 46 "CompassBias$Round" "upperA" "J", Cond.fieldLink RX0 49 "CompassBias$Round" "upperB" "J", Cond.fieldLink RX0 52 "CompassBias$Round" "upperC" "J"]
def wsX2_trim_r3 : List Cond := [Cond.methodLink RX2 79 yX0_isFlat, Cond.instanceMethod yX0_isFlat, Cond.selects RX0 yX0_isFlat yX0_isFlat, Cond.code yX0_isFlat cX0_isFlat 1 (some .boolean), Cond.methodLink RX2 61 yJ6_bitCount_0f7a4, Cond.static yJ6_bitCount_0f7a4, Cond.initialized RJ6, Cond.code yJ6_bitCount_0f7a4 cJ6_bitCount_0f7a4 1 (some .int), Cond.constant RJ6 265 (1431655765), Cond.constant RJ6 266 (858993459), Cond.constant RJ6 267 (252645135), Cond.methodLink RX2 143 yX2_isToTrim, Cond.instanceMethod yX2_isToTrim, Cond.selects RX2 yX2_isToTrim yX2_isToTrim, Cond.code yX2_isToTrim cX2_isToTrim 2 (some .boolean), Cond.methodLink RX2 114 yX2_worstSample, Cond.instanceMethod yX2_worstSample, Cond.selects RX2 yX2_worstSample yX2_worstSample, Cond.code yX2_worstSample cX2_worstSample 7 (some .int), Cond.constantLong RX2 173 (-1), Cond.methodLink RX2 118 yX2_sizeUpper, Cond.instanceMethod yX2_sizeUpper, Cond.selects RX2 yX2_sizeUpper yX2_sizeUpper, Cond.code yX2_sizeUpper cX2_sizeUpper 3 (some .long)]
def wsX2_trim_r4 : List Cond := [Cond.methodLink RX2 153 Lib.MathLoose.abs_long.x, Cond.static Lib.MathLoose.abs_long.x, Cond.initialized "java/lang/Math", Cond.code Lib.MathLoose.abs_long.x Lib.MathLoose.abs_long.code 2 (some .long), Cond.methodLink RX2 53 yX2_isSample, Cond.instanceMethod yX2_isSample, Cond.selects RX2 yX2_isSample yX2_isSample, Cond.code yX2_isSample cX2_isSample 2 (some .boolean), Cond.fieldLink RX2 40 "CompassBias$Samples" "many" "I", Cond.methodLink RX2 110 yX0_offUpperAt, Cond.instanceMethod yX0_offUpperAt, Cond.selects RX0 yX0_offUpperAt yX0_offUpperAt, Cond.code yX0_offUpperAt cX0_offUpperAt 3 (some .long), Cond.methodLink RX2 182 yX2_isSizeAbove, Cond.instanceMethod yX2_isSizeAbove, Cond.selects RX2 yX2_isSizeAbove yX2_isSizeAbove, Cond.code yX2_isSizeAbove cX2_isSizeAbove 4 (some .boolean), Cond.methodLink RX2 89 yX0_fullLower, Cond.instanceMethod yX0_fullLower, Cond.selects RX0 yX0_fullLower yX0_fullLower, Cond.code yX0_fullLower cX0_fullLower 1 (some .long)]
def wsX2_trim : List Cond := .code yX2_trim cX2_trim 4 (some .int) :: ((wsX2_trim_r1 ++ (wsX2_trim_r2 ++ (wsX2_trim_r3 ++ wsX2_trim_r4))) ++ wsX20 ++ wsX10 ++ wsX00)
def wsX2_isWithin_r1 : List Cond := [Cond.fieldLink RX2 33 "CompassBias" "trial" "LCompassBias$Round;", Cond.methodLink RX2 135 yX2_sumUp, Cond.instanceMethod yX2_sumUp, Cond.selects RX2 yX2_sumUp yX2_sumUp, Cond.initialized RX2, Cond.code yX2_sumUp cX2_sumUp 4 none, Cond.fieldLink RX2 12 "CompassBias" "now" "LCompassBias$Samples;", Cond.fieldLink RX2 43 "CompassBias$Samples" "xs" "[I", Cond.fieldLink RX2 47 "CompassBias$Samples" "ys" "[I", Cond.methodLink RX2 166 yX0_empty, Cond.instanceMethod yX0_empty, Cond.selects RX0 yX0_empty yX0_empty, Cond.initialized RX0, Cond.code yX0_empty cX0_empty 1 none, Cond.fieldLink RX0 9 "CompassBias$Round" "many" "J", Cond.fieldLink RX0 15 "CompassBias$Round" "sumX" "J", Cond.fieldLink RX0 18 "CompassBias$Round" "sumY" "J", Cond.fieldLink RX0 21 "CompassBias$Round" "sumXX" "J", Cond.fieldLink RX0 24 "CompassBias$Round" "sumXY" "J", Cond.fieldLink RX0 27 "CompassBias$Round" "sumYY" "J", Cond.fieldLink RX0 30 "CompassBias$Round" "sumPower" "J", Cond.fieldLink RX0 33 "CompassBias$Round" "sumXPower" "J", Cond.fieldLink RX0 36 "CompassBias$Round" "sumYPower" "J", Cond.methodLink RX2 67 yX2_isIn]
def wsX2_isWithin_r2 : List Cond := [Cond.static yX2_isIn, Cond.code yX2_isIn cX2_isIn 2 (some .boolean), Cond.methodLink RX2 169 yX0_include, Cond.instanceMethod yX0_include, Cond.selects RX0 yX0_include yX0_include, Cond.code yX0_include cX0_include 4 none, Cond.static yX2_powerAt, Cond.code yX2_powerAt cX2_powerAt 2 (some .int), Cond.methodLink RX2 163 yX0_lay, Cond.instanceMethod yX0_lay, Cond.selects RX0 yX0_lay yX0_lay, Cond.code yX0_lay cX0_lay 11 none, Cond.fieldLink RX0 43 "CompassBias$Round" "spread" "J", Cond.fieldLink RX0 46 "CompassBias$Round" "upperA" "J", Cond.fieldLink RX0 49 "CompassBias$Round" "upperB" "J", Cond.fieldLink RX0 52 "CompassBias$Round" "upperC" "J", Cond.methodLink RX2 79 yX0_isFlat, Cond.instanceMethod yX0_isFlat, Cond.selects RX0 yX0_isFlat yX0_isFlat, Cond.code yX0_isFlat cX0_isFlat 1 (some .boolean), Cond.methodLink RX2 182 yX2_isSizeAbove, Cond.instanceMethod yX2_isSizeAbove, Cond.selects RX2 yX2_isSizeAbove yX2_isSizeAbove, Cond.code yX2_isSizeAbove cX2_isSizeAbove 4 (some .boolean)]
def wsX2_isWithin_r3 : List Cond := [Cond.methodLink RX2 118 yX2_sizeUpper, Cond.instanceMethod yX2_sizeUpper, Cond.selects RX2 yX2_sizeUpper yX2_sizeUpper, Cond.code yX2_sizeUpper cX2_sizeUpper 3 (some .long), Cond.methodLink RX2 153 Lib.MathLoose.abs_long.x, Cond.static Lib.MathLoose.abs_long.x, Cond.initialized "java/lang/Math", Cond.code Lib.MathLoose.abs_long.x Lib.MathLoose.abs_long.code 2 (some .long), Cond.methodLink RX2 53 yX2_isSample, Cond.instanceMethod yX2_isSample, Cond.selects RX2 yX2_isSample yX2_isSample, Cond.code yX2_isSample cX2_isSample 2 (some .boolean), Cond.fieldLink RX2 40 "CompassBias$Samples" "many" "I", Cond.methodLink RX2 110 yX0_offUpperAt, Cond.instanceMethod yX0_offUpperAt, Cond.selects RX0 yX0_offUpperAt yX0_offUpperAt, Cond.code yX0_offUpperAt cX0_offUpperAt 3 (some .long), Cond.methodLink RX2 89 yX0_fullLower, Cond.instanceMethod yX0_fullLower, Cond.selects RX0 yX0_fullLower yX0_fullLower, Cond.code yX0_fullLower cX0_fullLower 1 (some .long)]
def wsX2_isWithin : List Cond := .code yX2_isWithin cX2_isWithin 4 (some .boolean) :: ((wsX2_isWithin_r1 ++ (wsX2_isWithin_r2 ++ wsX2_isWithin_r3)) ++ wsX20 ++ wsX10 ++ wsX00)
def wsX2_leastSetToLeaveOut_r1 : List Cond := [Cond.fieldLink RX2 12 "CompassBias" "now" "LCompassBias$Samples;", Cond.fieldLink RX2 50 "CompassBias$Samples" "taken" "I", Cond.methodLink RX2 61 yJ6_bitCount_0f7a4, Cond.static yJ6_bitCount_0f7a4, Cond.initialized RJ6, Cond.code yJ6_bitCount_0f7a4 cJ6_bitCount_0f7a4 1 (some .int), Cond.constant RJ6 265 (1431655765), Cond.constant RJ6 266 (858993459), Cond.constant RJ6 267 (252645135), Cond.methodLink RX2 186 yX2_isWithin, Cond.instanceMethod yX2_isWithin, Cond.selects RX2 yX2_isWithin yX2_isWithin, Cond.initialized RX2, Cond.code yX2_isWithin cX2_isWithin 4 (some .boolean), Cond.fieldLink RX2 33 "CompassBias" "trial" "LCompassBias$Round;", Cond.methodLink RX2 135 yX2_sumUp, Cond.instanceMethod yX2_sumUp, Cond.selects RX2 yX2_sumUp yX2_sumUp, Cond.code yX2_sumUp cX2_sumUp 4 none, Cond.fieldLink RX2 43 "CompassBias$Samples" "xs" "[I", Cond.fieldLink RX2 47 "CompassBias$Samples" "ys" "[I", Cond.methodLink RX2 166 yX0_empty, Cond.instanceMethod yX0_empty, Cond.selects RX0 yX0_empty yX0_empty]
def wsX2_leastSetToLeaveOut_r2 : List Cond := [Cond.initialized RX0, Cond.code yX0_empty cX0_empty 1 none, Cond.fieldLink RX0 9 "CompassBias$Round" "many" "J", Cond.fieldLink RX0 15 "CompassBias$Round" "sumX" "J", Cond.fieldLink RX0 18 "CompassBias$Round" "sumY" "J", Cond.fieldLink RX0 21 "CompassBias$Round" "sumXX" "J", Cond.fieldLink RX0 24 "CompassBias$Round" "sumXY" "J", Cond.fieldLink RX0 27 "CompassBias$Round" "sumYY" "J", Cond.fieldLink RX0 30 "CompassBias$Round" "sumPower" "J", Cond.fieldLink RX0 33 "CompassBias$Round" "sumXPower" "J", Cond.fieldLink RX0 36 "CompassBias$Round" "sumYPower" "J", Cond.methodLink RX2 67 yX2_isIn, Cond.static yX2_isIn, Cond.code yX2_isIn cX2_isIn 2 (some .boolean), Cond.methodLink RX2 169 yX0_include, Cond.instanceMethod yX0_include, Cond.selects RX0 yX0_include yX0_include, Cond.code yX0_include cX0_include 4 none, Cond.static yX2_powerAt, Cond.code yX2_powerAt cX2_powerAt 2 (some .int), Cond.methodLink RX2 163 yX0_lay, Cond.instanceMethod yX0_lay, Cond.selects RX0 yX0_lay yX0_lay, Cond.code yX0_lay cX0_lay 11 none]
def wsX2_leastSetToLeaveOut_r3 : List Cond := [Cond.fieldLink RX0 43 "CompassBias$Round" "spread" "J", Cond.fieldLink RX0 46 "CompassBias$Round" "upperA" "J", Cond.fieldLink RX0 49 "CompassBias$Round" "upperB" "J", Cond.fieldLink RX0 52 "CompassBias$Round" "upperC" "J", Cond.methodLink RX2 79 yX0_isFlat, Cond.instanceMethod yX0_isFlat, Cond.selects RX0 yX0_isFlat yX0_isFlat, Cond.code yX0_isFlat cX0_isFlat 1 (some .boolean), Cond.methodLink RX2 182 yX2_isSizeAbove, Cond.instanceMethod yX2_isSizeAbove, Cond.selects RX2 yX2_isSizeAbove yX2_isSizeAbove, Cond.code yX2_isSizeAbove cX2_isSizeAbove 4 (some .boolean), Cond.methodLink RX2 118 yX2_sizeUpper, Cond.instanceMethod yX2_sizeUpper, Cond.selects RX2 yX2_sizeUpper yX2_sizeUpper, Cond.code yX2_sizeUpper cX2_sizeUpper 3 (some .long), Cond.methodLink RX2 153 Lib.MathLoose.abs_long.x, Cond.static Lib.MathLoose.abs_long.x, Cond.initialized "java/lang/Math", Cond.code Lib.MathLoose.abs_long.x Lib.MathLoose.abs_long.code 2 (some .long), Cond.methodLink RX2 53 yX2_isSample, Cond.instanceMethod yX2_isSample, Cond.selects RX2 yX2_isSample yX2_isSample, Cond.code yX2_isSample cX2_isSample 2 (some .boolean)]
def wsX2_leastSetToLeaveOut_r4 : List Cond := [Cond.fieldLink RX2 40 "CompassBias$Samples" "many" "I", Cond.methodLink RX2 110 yX0_offUpperAt, Cond.instanceMethod yX0_offUpperAt, Cond.selects RX0 yX0_offUpperAt yX0_offUpperAt, Cond.code yX0_offUpperAt cX0_offUpperAt 3 (some .long), Cond.methodLink RX2 89 yX0_fullLower, Cond.instanceMethod yX0_fullLower, Cond.selects RX0 yX0_fullLower yX0_fullLower, Cond.code yX0_fullLower cX0_fullLower 1 (some .long)]
def wsX2_leastSetToLeaveOut : List Cond := .code yX2_leastSetToLeaveOut cX2_leastSetToLeaveOut 5 (some .int) :: ((wsX2_leastSetToLeaveOut_r1 ++ (wsX2_leastSetToLeaveOut_r2 ++ (wsX2_leastSetToLeaveOut_r3 ++ wsX2_leastSetToLeaveOut_r4))) ++ wsX20 ++ wsX10 ++ wsX00)
def wsX2_fewest_r1 : List Cond := [Cond.fieldLink RX2 12 "CompassBias" "now" "LCompassBias$Samples;", Cond.fieldLink RX2 50 "CompassBias$Samples" "taken" "I", Cond.methodLink RX2 57 yX2_isBetween, Cond.static yX2_isBetween, Cond.initialized RX2, Cond.code yX2_isBetween cX2_isBetween 3 (some .boolean), Cond.methodLink RX2 61 yJ6_bitCount_0f7a4, Cond.static yJ6_bitCount_0f7a4, Cond.initialized RJ6, Cond.code yJ6_bitCount_0f7a4 cJ6_bitCount_0f7a4 1 (some .int), Cond.constant RJ6 265 (1431655765), Cond.constant RJ6 266 (858993459), Cond.constant RJ6 267 (252645135), Cond.methodLink RX2 146 yX2_leastSetToLeaveOut, Cond.instanceMethod yX2_leastSetToLeaveOut, Cond.selects RX2 yX2_leastSetToLeaveOut yX2_leastSetToLeaveOut, Cond.code yX2_leastSetToLeaveOut cX2_leastSetToLeaveOut 5 (some .int), Cond.methodLink RX2 186 yX2_isWithin, Cond.instanceMethod yX2_isWithin, Cond.selects RX2 yX2_isWithin yX2_isWithin, Cond.code yX2_isWithin cX2_isWithin 4 (some .boolean), Cond.fieldLink RX2 33 "CompassBias" "trial" "LCompassBias$Round;", Cond.methodLink RX2 135 yX2_sumUp, Cond.instanceMethod yX2_sumUp]
def wsX2_fewest_r2 : List Cond := [Cond.selects RX2 yX2_sumUp yX2_sumUp, Cond.code yX2_sumUp cX2_sumUp 4 none, Cond.fieldLink RX2 43 "CompassBias$Samples" "xs" "[I", Cond.fieldLink RX2 47 "CompassBias$Samples" "ys" "[I", Cond.methodLink RX2 166 yX0_empty, Cond.instanceMethod yX0_empty, Cond.selects RX0 yX0_empty yX0_empty, Cond.initialized RX0, Cond.code yX0_empty cX0_empty 1 none, Cond.fieldLink RX0 9 "CompassBias$Round" "many" "J", Cond.fieldLink RX0 15 "CompassBias$Round" "sumX" "J", Cond.fieldLink RX0 18 "CompassBias$Round" "sumY" "J", Cond.fieldLink RX0 21 "CompassBias$Round" "sumXX" "J", Cond.fieldLink RX0 24 "CompassBias$Round" "sumXY" "J", Cond.fieldLink RX0 27 "CompassBias$Round" "sumYY" "J", Cond.fieldLink RX0 30 "CompassBias$Round" "sumPower" "J", Cond.fieldLink RX0 33 "CompassBias$Round" "sumXPower" "J", Cond.fieldLink RX0 36 "CompassBias$Round" "sumYPower" "J", Cond.methodLink RX2 67 yX2_isIn, Cond.static yX2_isIn, Cond.code yX2_isIn cX2_isIn 2 (some .boolean), Cond.methodLink RX2 169 yX0_include, Cond.instanceMethod yX0_include, Cond.selects RX0 yX0_include yX0_include]
def wsX2_fewest_r3 : List Cond := [Cond.code yX0_include cX0_include 4 none, Cond.static yX2_powerAt, Cond.code yX2_powerAt cX2_powerAt 2 (some .int), Cond.methodLink RX2 163 yX0_lay, Cond.instanceMethod yX0_lay, Cond.selects RX0 yX0_lay yX0_lay, Cond.code yX0_lay cX0_lay 11 none, Cond.fieldLink RX0 43 "CompassBias$Round" "spread" "J", Cond.fieldLink RX0 46 "CompassBias$Round" "upperA" "J", Cond.fieldLink RX0 49 "CompassBias$Round" "upperB" "J", Cond.fieldLink RX0 52 "CompassBias$Round" "upperC" "J", Cond.methodLink RX2 79 yX0_isFlat, Cond.instanceMethod yX0_isFlat, Cond.selects RX0 yX0_isFlat yX0_isFlat, Cond.code yX0_isFlat cX0_isFlat 1 (some .boolean), Cond.methodLink RX2 182 yX2_isSizeAbove, Cond.instanceMethod yX2_isSizeAbove, Cond.selects RX2 yX2_isSizeAbove yX2_isSizeAbove, Cond.code yX2_isSizeAbove cX2_isSizeAbove 4 (some .boolean), Cond.methodLink RX2 118 yX2_sizeUpper, Cond.instanceMethod yX2_sizeUpper, Cond.selects RX2 yX2_sizeUpper yX2_sizeUpper, Cond.code yX2_sizeUpper cX2_sizeUpper 3 (some .long), Cond.methodLink RX2 153 Lib.MathLoose.abs_long.x]
def wsX2_fewest_r4 : List Cond := [Cond.static Lib.MathLoose.abs_long.x, Cond.initialized "java/lang/Math", Cond.code Lib.MathLoose.abs_long.x Lib.MathLoose.abs_long.code 2 (some .long), Cond.methodLink RX2 53 yX2_isSample, Cond.instanceMethod yX2_isSample, Cond.selects RX2 yX2_isSample yX2_isSample, Cond.code yX2_isSample cX2_isSample 2 (some .boolean), Cond.fieldLink RX2 40 "CompassBias$Samples" "many" "I", Cond.methodLink RX2 110 yX0_offUpperAt, Cond.instanceMethod yX0_offUpperAt, Cond.selects RX0 yX0_offUpperAt yX0_offUpperAt, Cond.code yX0_offUpperAt cX0_offUpperAt 3 (some .long), Cond.methodLink RX2 89 yX0_fullLower, Cond.instanceMethod yX0_fullLower, Cond.selects RX0 yX0_fullLower yX0_fullLower, Cond.code yX0_fullLower cX0_fullLower 1 (some .long)]
def wsX2_fewest : List Cond := .code yX2_fewest cX2_fewest 6 (some .int) :: ((wsX2_fewest_r1 ++ (wsX2_fewest_r2 ++ (wsX2_fewest_r3 ++ wsX2_fewest_r4))) ++ wsX20 ++ wsX10 ++ wsX00)
def wsX2_image : List Cond := .code yX2_image cX2_image 2 (some .int) :: ([.fieldLink RX2 16 "CompassBias" "image0" "LCompassBias$Samples;", .fieldLink RX2 19 "CompassBias" "image1" "LCompassBias$Samples;", .fieldLink RX2 12 "CompassBias" "now" "LCompassBias$Samples;", .fieldLink RX2 22 "CompassBias" "keptImages" "I", .methodLink RX2 57 yX2_isBetween, .static yX2_isBetween, .initialized RX2, .code yX2_isBetween cX2_isBetween 3 (some .boolean), .methodLink RX2 149 yX1_become, .instanceMethod yX1_become, .selects RX1 yX1_become yX1_become, .initialized RX1, .code yX1_become cX1_become 3 none, .fieldLink RX1 9 "CompassBias$Samples" "xs" "[I", .fieldLink RX1 15 "CompassBias$Samples" "ys" "[I", .fieldLink RX1 18 "CompassBias$Samples" "many" "I", .fieldLink RX1 22 "CompassBias$Samples" "taken" "I", .fieldLink RX1 25 "CompassBias$Samples" "needed" "I"] ++ wsX20 ++ wsX10)
def wsX2_restore : List Cond := .code yX2_restore cX2_restore 2 (some .int) :: ([.fieldLink RX2 22 "CompassBias" "keptImages" "I", .fieldLink RX2 12 "CompassBias" "now" "LCompassBias$Samples;", .fieldLink RX2 16 "CompassBias" "image0" "LCompassBias$Samples;", .fieldLink RX2 19 "CompassBias" "image1" "LCompassBias$Samples;", .methodLink RX2 57 yX2_isBetween, .static yX2_isBetween, .initialized RX2, .code yX2_isBetween cX2_isBetween 3 (some .boolean), .methodLink RX2 67 yX2_isIn, .static yX2_isIn, .code yX2_isIn cX2_isIn 2 (some .boolean), .methodLink RX2 149 yX1_become, .instanceMethod yX1_become, .selects RX1 yX1_become yX1_become, .initialized RX1, .code yX1_become cX1_become 3 none, .fieldLink RX1 9 "CompassBias$Samples" "xs" "[I", .fieldLink RX1 15 "CompassBias$Samples" "ys" "[I", .fieldLink RX1 18 "CompassBias$Samples" "many" "I", .fieldLink RX1 22 "CompassBias$Samples" "taken" "I", .fieldLink RX1 25 "CompassBias$Samples" "needed" "I"] ++ wsX20 ++ wsX10)
def wsX2_count_r1 : List Cond := [Cond.fieldLink RX2 12 "CompassBias" "now" "LCompassBias$Samples;", Cond.fieldLink RX2 40 "CompassBias$Samples" "many" "I", Cond.fieldLink RX2 50 "CompassBias$Samples" "taken" "I", Cond.fieldLink RX2 122 "CompassBias$Samples" "needed" "I", Cond.fieldLink RX2 29 "CompassBias" "theRound" "LCompassBias$Round;", Cond.fieldLink RX2 22 "CompassBias" "keptImages" "I", Cond.methodLink RX2 61 yJ6_bitCount_0f7a4, Cond.static yJ6_bitCount_0f7a4, Cond.initialized RJ6, Cond.code yJ6_bitCount_0f7a4 cJ6_bitCount_0f7a4 1 (some .int), Cond.constant RJ6 265 (1431655765), Cond.constant RJ6 266 (858993459), Cond.constant RJ6 267 (252645135), Cond.methodLink RX2 76 yX2_layTheRound, Cond.instanceMethod yX2_layTheRound, Cond.selects RX2 yX2_layTheRound yX2_layTheRound, Cond.initialized RX2, Cond.code yX2_layTheRound cX2_layTheRound 1 none, Cond.methodLink RX2 135 yX2_sumUp, Cond.instanceMethod yX2_sumUp, Cond.selects RX2 yX2_sumUp yX2_sumUp, Cond.code yX2_sumUp cX2_sumUp 4 none, Cond.fieldLink RX2 43 "CompassBias$Samples" "xs" "[I", Cond.fieldLink RX2 47 "CompassBias$Samples" "ys" "[I"]
def wsX2_count_r2 : List Cond := [Cond.methodLink RX2 166 yX0_empty, Cond.instanceMethod yX0_empty, Cond.selects RX0 yX0_empty yX0_empty, Cond.initialized RX0, Cond.code yX0_empty cX0_empty 1 none, Cond.fieldLink RX0 9 "CompassBias$Round" "many" "J", Cond.fieldLink RX0 15 "CompassBias$Round" "sumX" "J", Cond.fieldLink RX0 18 "CompassBias$Round" "sumY" "J", Cond.fieldLink RX0 21 "CompassBias$Round" "sumXX" "J", Cond.fieldLink RX0 24 "CompassBias$Round" "sumXY" "J", Cond.fieldLink RX0 27 "CompassBias$Round" "sumYY" "J", Cond.fieldLink RX0 30 "CompassBias$Round" "sumPower" "J", Cond.fieldLink RX0 33 "CompassBias$Round" "sumXPower" "J", Cond.fieldLink RX0 36 "CompassBias$Round" "sumYPower" "J", Cond.methodLink RX2 67 yX2_isIn, Cond.static yX2_isIn, Cond.code yX2_isIn cX2_isIn 2 (some .boolean), Cond.methodLink RX2 169 yX0_include, Cond.instanceMethod yX0_include, Cond.selects RX0 yX0_include yX0_include, Cond.code yX0_include cX0_include 4 none, Cond.static yX2_powerAt, Cond.code yX2_powerAt cX2_powerAt 2 (some .int), Cond.methodLink RX2 163 yX0_lay]
def wsX2_count_r3 : List Cond := [Cond.instanceMethod yX0_lay, Cond.selects RX0 yX0_lay yX0_lay, Cond.code yX0_lay cX0_lay 11 none, Cond.fieldLink RX0 43 "CompassBias$Round" "spread" "J", Cond.fieldLink RX0 46 "CompassBias$Round" "upperA" "J", Cond.fieldLink RX0 49 "CompassBias$Round" "upperB" "J", Cond.fieldLink RX0 52 "CompassBias$Round" "upperC" "J", Cond.methodLink RX2 79 yX0_isFlat, Cond.instanceMethod yX0_isFlat, Cond.selects RX0 yX0_isFlat yX0_isFlat, Cond.code yX0_isFlat cX0_isFlat 1 (some .boolean)]
def wsX2_count : List Cond := .code yX2_count cX2_count 2 (some .int) :: ((wsX2_count_r1 ++ (wsX2_count_r2 ++ wsX2_count_r3)) ++ wsX20 ++ wsX10 ++ wsX00)
def wsX3_init : List Cond := .code yX3_init cX3_init 1 none :: ([.methodLink RX3 1 objectInit, .instanceMethod objectInit, .code objectInit ⟨#[0xb1]⟩ 1 none, .arrayClass .int, .fieldLink RX3 7 "CompassBiasModel" "state" "[I", .fieldLink RX3 13 "CompassBiasModel" "images" "[I", .arrayClass .boolean, .fieldLink RX3 16 "CompassBiasModel" "isKept" "[Z"] ++ wsX30)
def wsX3_in : List Cond := .code yX3_in cX3_in 6 (some .boolean) :: ([])
def wsX3_isSample : List Cond := .code yX3_isSample cX3_isSample 2 (some .boolean) :: ([.fieldLink RX3 7 "CompassBiasModel" "state" "[I", .methodLink RX3 20 yX3_in, .static yX3_in, .initialized RX3, .code yX3_in cX3_in 6 (some .boolean)] ++ wsX30)
def wsX3_isHere : List Cond := .code yX3_isHere cX3_isHere 2 (some .boolean) :: ([.constantLong RX3 24 (-40), .constantLong RX3 26 (40), .methodLink RX3 20 yX3_in, .static yX3_in, .initialized RX3, .code yX3_in cX3_in 6 (some .boolean)])
def wsX3_size : List Cond := .code yX3_size cX3_size 3 (some .int) :: ([])
def wsX3_power : List Cond := .code yX3_power cX3_power 2 (some .int) :: ([])
def wsX3_add : List Cond := .code yX3_add cX3_add 4 (some .int) :: ([.fieldLink RX3 7 "CompassBiasModel" "state" "[I", .methodLink RX3 28 yX3_isHere, .static yX3_isHere, .initialized RX3, .code yX3_isHere cX3_isHere 2 (some .boolean), .constantLong RX3 24 (-40), .constantLong RX3 26 (40), .methodLink RX3 20 yX3_in, .static yX3_in, .code yX3_in cX3_in 6 (some .boolean)] ++ wsX30)
def wsX3_clear : List Cond := .code yX3_clear cX3_clear 2 (some .int) :: ([.fieldLink RX3 7 "CompassBiasModel" "state" "[I"] ++ wsX30)
def wsX3_take : List Cond := .code yX3_take cX3_take 3 (some .int) :: ([.fieldLink RX3 7 "CompassBiasModel" "state" "[I", .methodLink RX3 32 yX3_isSample, .instanceMethod yX3_isSample, .selects RX3 yX3_isSample yX3_isSample, .initialized RX3, .code yX3_isSample cX3_isSample 2 (some .boolean), .methodLink RX3 20 yX3_in, .static yX3_in, .code yX3_in cX3_in 6 (some .boolean), .methodLink RX3 36 yX3_size, .static yX3_size, .code yX3_size cX3_size 3 (some .int)] ++ wsX30)
def wsX3_of : List Cond := .code yX3_of cX3_of 3 (some .int) :: ([.fieldLink RX3 7 "CompassBiasModel" "state" "[I", .methodLink RX3 32 yX3_isSample, .instanceMethod yX3_isSample, .selects RX3 yX3_isSample yX3_isSample, .initialized RX3, .code yX3_isSample cX3_isSample 2 (some .boolean), .methodLink RX3 20 yX3_in, .static yX3_in, .code yX3_in cX3_in 6 (some .boolean), .methodLink RX3 40 yX3_power, .static yX3_power, .code yX3_power cX3_power 2 (some .int)] ++ wsX30)
def wsX3_sumOne : List Cond := .code yX3_sumOne cX3_sumOne 4 none :: ([.fieldLink RX3 44 "CompassBiasModel" "n" "J", .fieldLink RX3 48 "CompassBiasModel" "sx" "J", .fieldLink RX3 51 "CompassBiasModel" "sy" "J", .fieldLink RX3 54 "CompassBiasModel" "sxx" "J", .fieldLink RX3 57 "CompassBiasModel" "sxy" "J", .fieldLink RX3 60 "CompassBiasModel" "syy" "J", .fieldLink RX3 63 "CompassBiasModel" "sp" "J", .fieldLink RX3 66 "CompassBiasModel" "spx" "J", .fieldLink RX3 69 "CompassBiasModel" "spy" "J", .methodLink RX3 40 yX3_power, .static yX3_power, .initialized RX3, .code yX3_power cX3_power 2 (some .int)] ++ wsX30)
def wsX3_sumSet : List Cond := .code yX3_sumSet cX3_sumSet 3 none :: ([.fieldLink RX3 44 "CompassBiasModel" "n" "J", .fieldLink RX3 48 "CompassBiasModel" "sx" "J", .fieldLink RX3 51 "CompassBiasModel" "sy" "J", .fieldLink RX3 54 "CompassBiasModel" "sxx" "J", .fieldLink RX3 57 "CompassBiasModel" "sxy" "J", .fieldLink RX3 60 "CompassBiasModel" "syy" "J", .fieldLink RX3 63 "CompassBiasModel" "sp" "J", .fieldLink RX3 66 "CompassBiasModel" "spx" "J", .fieldLink RX3 69 "CompassBiasModel" "spy" "J", .fieldLink RX3 7 "CompassBiasModel" "state" "[I", .methodLink RX3 72 yX3_sumOne, .instanceMethod yX3_sumOne, .selects RX3 yX3_sumOne yX3_sumOne, .initialized RX3, .code yX3_sumOne cX3_sumOne 4 none, .methodLink RX3 40 yX3_power, .static yX3_power, .code yX3_power cX3_power 2 (some .int)] ++ wsX30)
def wsX3_det : List Cond := .code yX3_det cX3_det 18 (some .long) :: ([])
def wsX3_layRound : List Cond := .code yX3_layRound cX3_layRound 1 none :: ([.fieldLink RX3 54 "CompassBiasModel" "sxx" "J", .fieldLink RX3 57 "CompassBiasModel" "sxy" "J", .fieldLink RX3 48 "CompassBiasModel" "sx" "J", .fieldLink RX3 60 "CompassBiasModel" "syy" "J", .fieldLink RX3 51 "CompassBiasModel" "sy" "J", .fieldLink RX3 44 "CompassBiasModel" "n" "J", .fieldLink RX3 80 "CompassBiasModel" "by" "J", .fieldLink RX3 66 "CompassBiasModel" "spx" "J", .fieldLink RX3 69 "CompassBiasModel" "spy" "J", .fieldLink RX3 63 "CompassBiasModel" "sp" "J", .fieldLink RX3 83 "CompassBiasModel" "a" "J", .fieldLink RX3 86 "CompassBiasModel" "b" "J", .fieldLink RX3 89 "CompassBiasModel" "c" "J", .methodLink RX3 76 yX3_det, .static yX3_det, .initialized RX3, .code yX3_det cX3_det 18 (some .long)] ++ wsX30)
def wsX3_lay_r1 : List Cond := [Cond.fieldLink RX3 80 "CompassBiasModel" "by" "J", Cond.methodLink RX3 92 yX3_sumSet, Cond.instanceMethod yX3_sumSet, Cond.selects RX3 yX3_sumSet yX3_sumSet, Cond.initialized RX3, Cond.code yX3_sumSet cX3_sumSet 3 none, Cond.fieldLink RX3 44 "CompassBiasModel" "n" "J", Cond.fieldLink RX3 48 "CompassBiasModel" "sx" "J", Cond.fieldLink RX3 51 "CompassBiasModel" "sy" "J", Cond.fieldLink RX3 54 "CompassBiasModel" "sxx" "J", Cond.fieldLink RX3 57 "CompassBiasModel" "sxy" "J", Cond.fieldLink RX3 60 "CompassBiasModel" "syy" "J", Cond.fieldLink RX3 63 "CompassBiasModel" "sp" "J", Cond.fieldLink RX3 66 "CompassBiasModel" "spx" "J", Cond.fieldLink RX3 69 "CompassBiasModel" "spy" "J", Cond.fieldLink RX3 7 "CompassBiasModel" "state" "[I", Cond.methodLink RX3 72 yX3_sumOne, Cond.instanceMethod yX3_sumOne, Cond.selects RX3 yX3_sumOne yX3_sumOne, Cond.code yX3_sumOne cX3_sumOne 4 none, Cond.methodLink RX3 40 yX3_power, Cond.static yX3_power, Cond.code yX3_power cX3_power 2 (some .int), Cond.methodLink RX3 96 yX3_layRound]
def wsX3_lay_r2 : List Cond := [Cond.instanceMethod yX3_layRound, Cond.selects RX3 yX3_layRound yX3_layRound, Cond.code yX3_layRound cX3_layRound 1 none, Cond.fieldLink RX3 83 "CompassBiasModel" "a" "J", Cond.fieldLink RX3 86 "CompassBiasModel" "b" "J", Cond.fieldLink RX3 89 "CompassBiasModel" "c" "J", Cond.methodLink RX3 76 yX3_det, Cond.static yX3_det, Cond.code yX3_det cX3_det 18 (some .long)]
def wsX3_lay : List Cond := .code yX3_lay cX3_lay 2 (some .boolean) :: ((wsX3_lay_r1 ++ wsX3_lay_r2) ++ wsX30)
def wsX3_layTaken_r1 : List Cond := [Cond.fieldLink RX3 7 "CompassBiasModel" "state" "[I", Cond.methodLink RX3 99 yX3_lay, Cond.instanceMethod yX3_lay, Cond.selects RX3 yX3_lay yX3_lay, Cond.initialized RX3, Cond.code yX3_lay cX3_lay 2 (some .boolean), Cond.fieldLink RX3 80 "CompassBiasModel" "by" "J", Cond.methodLink RX3 92 yX3_sumSet, Cond.instanceMethod yX3_sumSet, Cond.selects RX3 yX3_sumSet yX3_sumSet, Cond.code yX3_sumSet cX3_sumSet 3 none, Cond.fieldLink RX3 44 "CompassBiasModel" "n" "J", Cond.fieldLink RX3 48 "CompassBiasModel" "sx" "J", Cond.fieldLink RX3 51 "CompassBiasModel" "sy" "J", Cond.fieldLink RX3 54 "CompassBiasModel" "sxx" "J", Cond.fieldLink RX3 57 "CompassBiasModel" "sxy" "J", Cond.fieldLink RX3 60 "CompassBiasModel" "syy" "J", Cond.fieldLink RX3 63 "CompassBiasModel" "sp" "J", Cond.fieldLink RX3 66 "CompassBiasModel" "spx" "J", Cond.fieldLink RX3 69 "CompassBiasModel" "spy" "J", Cond.methodLink RX3 72 yX3_sumOne, Cond.instanceMethod yX3_sumOne, Cond.selects RX3 yX3_sumOne yX3_sumOne, Cond.code yX3_sumOne cX3_sumOne 4 none]
def wsX3_layTaken_r2 : List Cond := [Cond.methodLink RX3 40 yX3_power, Cond.static yX3_power, Cond.code yX3_power cX3_power 2 (some .int), Cond.methodLink RX3 96 yX3_layRound, Cond.instanceMethod yX3_layRound, Cond.selects RX3 yX3_layRound yX3_layRound, Cond.code yX3_layRound cX3_layRound 1 none, Cond.fieldLink RX3 83 "CompassBiasModel" "a" "J", Cond.fieldLink RX3 86 "CompassBiasModel" "b" "J", Cond.fieldLink RX3 89 "CompassBiasModel" "c" "J", Cond.methodLink RX3 76 yX3_det, Cond.static yX3_det, Cond.code yX3_det cX3_det 18 (some .long)]
def wsX3_layTaken : List Cond := .code yX3_layTaken cX3_layTaken 1 (some .boolean) :: ((wsX3_layTaken_r1 ++ wsX3_layTaken_r2) ++ wsX30)
def wsX3_offOf : List Cond := .code yX3_offOf cX3_offOf 4 (some .long) :: ([.fieldLink RX3 7 "CompassBiasModel" "state" "[I", .fieldLink RX3 80 "CompassBiasModel" "by" "J", .fieldLink RX3 83 "CompassBiasModel" "a" "J", .fieldLink RX3 86 "CompassBiasModel" "b" "J", .fieldLink RX3 89 "CompassBiasModel" "c" "J", .methodLink RX3 40 yX3_power, .static yX3_power, .initialized RX3, .code yX3_power cX3_power 2 (some .int)] ++ wsX30)
def wsX3_plain : List Cond := .code yX3_plain cX3_plain 2 (some .long) :: ([])
def wsX3_common : List Cond := .code yX3_common cX3_common 10 (some .long) :: ([])
def wsX3_told : List Cond := .code yX3_told cX3_told 7 (some .long) :: ([.methodLink RX3 102 yX3_plain, .static yX3_plain, .initialized RX3, .code yX3_plain cX3_plain 2 (some .long), .methodLink RX3 106 yX3_common, .static yX3_common, .code yX3_common cX3_common 10 (some .long)])
def wsX3_round_r1 : List Cond := [Cond.constantLong RX3 110 (2), Cond.constantLong RX3 112 (-1000000000000000002), Cond.constantLong RX3 118 (-1000000000000000005), Cond.fieldLink RX3 83 "CompassBiasModel" "a" "J", Cond.fieldLink RX3 86 "CompassBiasModel" "b" "J", Cond.fieldLink RX3 89 "CompassBiasModel" "c" "J", Cond.fieldLink RX3 80 "CompassBiasModel" "by" "J", Cond.methodLink RX3 20 yX3_in, Cond.static yX3_in, Cond.initialized RX3, Cond.code yX3_in cX3_in 6 (some .boolean), Cond.methodLink RX3 114 yX3_layTaken, Cond.instanceMethod yX3_layTaken, Cond.selects RX3 yX3_layTaken yX3_layTaken, Cond.code yX3_layTaken cX3_layTaken 1 (some .boolean), Cond.fieldLink RX3 7 "CompassBiasModel" "state" "[I", Cond.methodLink RX3 99 yX3_lay, Cond.instanceMethod yX3_lay, Cond.selects RX3 yX3_lay yX3_lay, Cond.code yX3_lay cX3_lay 2 (some .boolean), Cond.methodLink RX3 92 yX3_sumSet, Cond.instanceMethod yX3_sumSet, Cond.selects RX3 yX3_sumSet yX3_sumSet, Cond.code yX3_sumSet cX3_sumSet 3 none]
def wsX3_round_r2 : List Cond := [Cond.fieldLink RX3 44 "CompassBiasModel" "n" "J", Cond.fieldLink RX3 48 "CompassBiasModel" "sx" "J", Cond.fieldLink RX3 51 "CompassBiasModel" "sy" "J", Cond.fieldLink RX3 54 "CompassBiasModel" "sxx" "J", Cond.fieldLink RX3 57 "CompassBiasModel" "sxy" "J", Cond.fieldLink RX3 60 "CompassBiasModel" "syy" "J", Cond.fieldLink RX3 63 "CompassBiasModel" "sp" "J", Cond.fieldLink RX3 66 "CompassBiasModel" "spx" "J", Cond.fieldLink RX3 69 "CompassBiasModel" "spy" "J", Cond.methodLink RX3 72 yX3_sumOne, Cond.instanceMethod yX3_sumOne, Cond.selects RX3 yX3_sumOne yX3_sumOne, Cond.code yX3_sumOne cX3_sumOne 4 none, Cond.methodLink RX3 40 yX3_power, Cond.static yX3_power, Cond.code yX3_power cX3_power 2 (some .int), Cond.methodLink RX3 96 yX3_layRound, Cond.instanceMethod yX3_layRound, Cond.selects RX3 yX3_layRound yX3_layRound, Cond.code yX3_layRound cX3_layRound 1 none, Cond.methodLink RX3 76 yX3_det, Cond.static yX3_det, Cond.code yX3_det cX3_det 18 (some .long), Cond.methodLink RX3 120 yX3_told]
def wsX3_round_r3 : List Cond := [Cond.static yX3_told, Cond.code yX3_told cX3_told 7 (some .long), Cond.methodLink RX3 102 yX3_plain, Cond.static yX3_plain, Cond.code yX3_plain cX3_plain 2 (some .long), Cond.methodLink RX3 106 yX3_common, Cond.static yX3_common, Cond.code yX3_common cX3_common 10 (some .long)]
def wsX3_round : List Cond := .code yX3_round cX3_round 3 (some .long) :: ((wsX3_round_r1 ++ (wsX3_round_r2 ++ wsX3_round_r3)) ++ wsX30)
def wsX3_middle_r1 : List Cond := [Cond.constantLong RX3 112 (-1000000000000000002), Cond.constantLong RX3 118 (-1000000000000000005), Cond.fieldLink RX3 83 "CompassBiasModel" "a" "J", Cond.fieldLink RX3 86 "CompassBiasModel" "b" "J", Cond.constantLong RX3 110 (2), Cond.fieldLink RX3 80 "CompassBiasModel" "by" "J", Cond.methodLink RX3 20 yX3_in, Cond.static yX3_in, Cond.initialized RX3, Cond.code yX3_in cX3_in 6 (some .boolean), Cond.methodLink RX3 114 yX3_layTaken, Cond.instanceMethod yX3_layTaken, Cond.selects RX3 yX3_layTaken yX3_layTaken, Cond.code yX3_layTaken cX3_layTaken 1 (some .boolean), Cond.fieldLink RX3 7 "CompassBiasModel" "state" "[I", Cond.methodLink RX3 99 yX3_lay, Cond.instanceMethod yX3_lay, Cond.selects RX3 yX3_lay yX3_lay, Cond.code yX3_lay cX3_lay 2 (some .boolean), Cond.methodLink RX3 92 yX3_sumSet, Cond.instanceMethod yX3_sumSet, Cond.selects RX3 yX3_sumSet yX3_sumSet, Cond.code yX3_sumSet cX3_sumSet 3 none, Cond.fieldLink RX3 44 "CompassBiasModel" "n" "J"]
def wsX3_middle_r2 : List Cond := [Cond.fieldLink RX3 48 "CompassBiasModel" "sx" "J", Cond.fieldLink RX3 51 "CompassBiasModel" "sy" "J", Cond.fieldLink RX3 54 "CompassBiasModel" "sxx" "J", Cond.fieldLink RX3 57 "CompassBiasModel" "sxy" "J", Cond.fieldLink RX3 60 "CompassBiasModel" "syy" "J", Cond.fieldLink RX3 63 "CompassBiasModel" "sp" "J", Cond.fieldLink RX3 66 "CompassBiasModel" "spx" "J", Cond.fieldLink RX3 69 "CompassBiasModel" "spy" "J", Cond.methodLink RX3 72 yX3_sumOne, Cond.instanceMethod yX3_sumOne, Cond.selects RX3 yX3_sumOne yX3_sumOne, Cond.code yX3_sumOne cX3_sumOne 4 none, Cond.methodLink RX3 40 yX3_power, Cond.static yX3_power, Cond.code yX3_power cX3_power 2 (some .int), Cond.methodLink RX3 96 yX3_layRound, Cond.instanceMethod yX3_layRound, Cond.selects RX3 yX3_layRound yX3_layRound, Cond.code yX3_layRound cX3_layRound 1 none, Cond.fieldLink RX3 89 "CompassBiasModel" "c" "J", Cond.methodLink RX3 76 yX3_det, Cond.static yX3_det, Cond.code yX3_det cX3_det 18 (some .long), Cond.methodLink RX3 120 yX3_told]
def wsX3_middle_r3 : List Cond := [Cond.static yX3_told, Cond.code yX3_told cX3_told 7 (some .long), Cond.methodLink RX3 102 yX3_plain, Cond.static yX3_plain, Cond.code yX3_plain cX3_plain 2 (some .long), Cond.methodLink RX3 106 yX3_common, Cond.static yX3_common, Cond.code yX3_common cX3_common 10 (some .long)]
def wsX3_middle : List Cond := .code yX3_middle cX3_middle 3 (some .long) :: ((wsX3_middle_r1 ++ (wsX3_middle_r2 ++ wsX3_middle_r3)) ++ wsX30)
def wsX3_off_r1 : List Cond := [Cond.constantLong RX3 124 (-1000000000000000001), Cond.constantLong RX3 112 (-1000000000000000002), Cond.constantLong RX3 118 (-1000000000000000005), Cond.fieldLink RX3 80 "CompassBiasModel" "by" "J", Cond.methodLink RX3 32 yX3_isSample, Cond.instanceMethod yX3_isSample, Cond.selects RX3 yX3_isSample yX3_isSample, Cond.initialized RX3, Cond.code yX3_isSample cX3_isSample 2 (some .boolean), Cond.fieldLink RX3 7 "CompassBiasModel" "state" "[I", Cond.methodLink RX3 20 yX3_in, Cond.static yX3_in, Cond.code yX3_in cX3_in 6 (some .boolean), Cond.methodLink RX3 114 yX3_layTaken, Cond.instanceMethod yX3_layTaken, Cond.selects RX3 yX3_layTaken yX3_layTaken, Cond.code yX3_layTaken cX3_layTaken 1 (some .boolean), Cond.methodLink RX3 99 yX3_lay, Cond.instanceMethod yX3_lay, Cond.selects RX3 yX3_lay yX3_lay, Cond.code yX3_lay cX3_lay 2 (some .boolean), Cond.methodLink RX3 92 yX3_sumSet, Cond.instanceMethod yX3_sumSet, Cond.selects RX3 yX3_sumSet yX3_sumSet]
def wsX3_off_r2 : List Cond := [Cond.code yX3_sumSet cX3_sumSet 3 none, Cond.fieldLink RX3 44 "CompassBiasModel" "n" "J", Cond.fieldLink RX3 48 "CompassBiasModel" "sx" "J", Cond.fieldLink RX3 51 "CompassBiasModel" "sy" "J", Cond.fieldLink RX3 54 "CompassBiasModel" "sxx" "J", Cond.fieldLink RX3 57 "CompassBiasModel" "sxy" "J", Cond.fieldLink RX3 60 "CompassBiasModel" "syy" "J", Cond.fieldLink RX3 63 "CompassBiasModel" "sp" "J", Cond.fieldLink RX3 66 "CompassBiasModel" "spx" "J", Cond.fieldLink RX3 69 "CompassBiasModel" "spy" "J", Cond.methodLink RX3 72 yX3_sumOne, Cond.instanceMethod yX3_sumOne, Cond.selects RX3 yX3_sumOne yX3_sumOne, Cond.code yX3_sumOne cX3_sumOne 4 none, Cond.methodLink RX3 40 yX3_power, Cond.static yX3_power, Cond.code yX3_power cX3_power 2 (some .int), Cond.methodLink RX3 96 yX3_layRound, Cond.instanceMethod yX3_layRound, Cond.selects RX3 yX3_layRound yX3_layRound, Cond.code yX3_layRound cX3_layRound 1 none, Cond.fieldLink RX3 83 "CompassBiasModel" "a" "J", Cond.fieldLink RX3 86 "CompassBiasModel" "b" "J", Cond.fieldLink RX3 89 "CompassBiasModel" "c" "J"]
def wsX3_off_r3 : List Cond := [Cond.methodLink RX3 76 yX3_det, Cond.static yX3_det, Cond.code yX3_det cX3_det 18 (some .long), Cond.methodLink RX3 126 yX3_offOf, Cond.instanceMethod yX3_offOf, Cond.selects RX3 yX3_offOf yX3_offOf, Cond.code yX3_offOf cX3_offOf 4 (some .long), Cond.methodLink RX3 120 yX3_told, Cond.static yX3_told, Cond.code yX3_told cX3_told 7 (some .long), Cond.methodLink RX3 102 yX3_plain, Cond.static yX3_plain, Cond.code yX3_plain cX3_plain 2 (some .long), Cond.methodLink RX3 106 yX3_common, Cond.static yX3_common, Cond.code yX3_common cX3_common 10 (some .long)]
def wsX3_off : List Cond := .code yX3_off cX3_off 3 (some .long) :: ((wsX3_off_r1 ++ (wsX3_off_r2 ++ wsX3_off_r3)) ++ wsX30)
def wsX3_worstOf : List Cond := .code yX3_worstOf cX3_worstOf 4 (some .int) :: ([.fieldLink RX3 7 "CompassBiasModel" "state" "[I", .methodLink RX3 126 yX3_offOf, .instanceMethod yX3_offOf, .selects RX3 yX3_offOf yX3_offOf, .initialized RX3, .code yX3_offOf cX3_offOf 4 (some .long), .fieldLink RX3 80 "CompassBiasModel" "by" "J", .fieldLink RX3 83 "CompassBiasModel" "a" "J", .fieldLink RX3 86 "CompassBiasModel" "b" "J", .fieldLink RX3 89 "CompassBiasModel" "c" "J", .methodLink RX3 40 yX3_power, .static yX3_power, .code yX3_power cX3_power 2 (some .int), .methodLink RX3 102 yX3_plain, .static yX3_plain, .code yX3_plain cX3_plain 2 (some .long)] ++ wsX30)
def wsX3_worst_r1 : List Cond := [Cond.fieldLink RX3 7 "CompassBiasModel" "state" "[I", Cond.fieldLink RX3 80 "CompassBiasModel" "by" "J", Cond.methodLink RX3 20 yX3_in, Cond.static yX3_in, Cond.initialized RX3, Cond.code yX3_in cX3_in 6 (some .boolean), Cond.methodLink RX3 114 yX3_layTaken, Cond.instanceMethod yX3_layTaken, Cond.selects RX3 yX3_layTaken yX3_layTaken, Cond.code yX3_layTaken cX3_layTaken 1 (some .boolean), Cond.methodLink RX3 99 yX3_lay, Cond.instanceMethod yX3_lay, Cond.selects RX3 yX3_lay yX3_lay, Cond.code yX3_lay cX3_lay 2 (some .boolean), Cond.methodLink RX3 92 yX3_sumSet, Cond.instanceMethod yX3_sumSet, Cond.selects RX3 yX3_sumSet yX3_sumSet, Cond.code yX3_sumSet cX3_sumSet 3 none, Cond.fieldLink RX3 44 "CompassBiasModel" "n" "J", Cond.fieldLink RX3 48 "CompassBiasModel" "sx" "J", Cond.fieldLink RX3 51 "CompassBiasModel" "sy" "J", Cond.fieldLink RX3 54 "CompassBiasModel" "sxx" "J", Cond.fieldLink RX3 57 "CompassBiasModel" "sxy" "J", Cond.fieldLink RX3 60 "CompassBiasModel" "syy" "J"]
def wsX3_worst_r2 : List Cond := [Cond.fieldLink RX3 63 "CompassBiasModel" "sp" "J", Cond.fieldLink RX3 66 "CompassBiasModel" "spx" "J", Cond.fieldLink RX3 69 "CompassBiasModel" "spy" "J", Cond.methodLink RX3 72 yX3_sumOne, Cond.instanceMethod yX3_sumOne, Cond.selects RX3 yX3_sumOne yX3_sumOne, Cond.code yX3_sumOne cX3_sumOne 4 none, Cond.methodLink RX3 40 yX3_power, Cond.static yX3_power, Cond.code yX3_power cX3_power 2 (some .int), Cond.methodLink RX3 96 yX3_layRound, Cond.instanceMethod yX3_layRound, Cond.selects RX3 yX3_layRound yX3_layRound, Cond.code yX3_layRound cX3_layRound 1 none, Cond.fieldLink RX3 83 "CompassBiasModel" "a" "J", Cond.fieldLink RX3 86 "CompassBiasModel" "b" "J", Cond.fieldLink RX3 89 "CompassBiasModel" "c" "J", Cond.methodLink RX3 76 yX3_det, Cond.static yX3_det, Cond.code yX3_det cX3_det 18 (some .long), Cond.methodLink RX3 130 yX3_worstOf, Cond.instanceMethod yX3_worstOf, Cond.selects RX3 yX3_worstOf yX3_worstOf, Cond.code yX3_worstOf cX3_worstOf 4 (some .int)]
def wsX3_worst_r3 : List Cond := [Cond.methodLink RX3 126 yX3_offOf, Cond.instanceMethod yX3_offOf, Cond.selects RX3 yX3_offOf yX3_offOf, Cond.code yX3_offOf cX3_offOf 4 (some .long), Cond.methodLink RX3 102 yX3_plain, Cond.static yX3_plain, Cond.code yX3_plain cX3_plain 2 (some .long)]
def wsX3_worst : List Cond := .code yX3_worst cX3_worst 3 (some .int) :: ((wsX3_worst_r1 ++ (wsX3_worst_r2 ++ wsX3_worst_r3)) ++ wsX30)
def wsX3_eighthOf : List Cond := .code yX3_eighthOf cX3_eighthOf 4 (some .int) :: ([])
def wsX3_eighthAt : List Cond := .code yX3_eighthAt cX3_eighthAt 3 (some .int) :: ([.constantLong RX3 110 (2), .fieldLink RX3 80 "CompassBiasModel" "by" "J", .fieldLink RX3 83 "CompassBiasModel" "a" "J", .fieldLink RX3 86 "CompassBiasModel" "b" "J", .methodLink RX3 133 yX3_eighthOf, .static yX3_eighthOf, .initialized RX3, .code yX3_eighthOf cX3_eighthOf 4 (some .int)] ++ wsX30)
def wsX3_bit : List Cond := .code yX3_bit cX3_bit 1 (some .int) :: ([])
def wsX3_coverOf : List Cond := .code yX3_coverOf cX3_coverOf 4 (some .int) :: ([.fieldLink RX3 7 "CompassBiasModel" "state" "[I", .methodLink RX3 137 yX3_eighthAt, .instanceMethod yX3_eighthAt, .selects RX3 yX3_eighthAt yX3_eighthAt, .initialized RX3, .code yX3_eighthAt cX3_eighthAt 3 (some .int), .constantLong RX3 110 (2), .fieldLink RX3 80 "CompassBiasModel" "by" "J", .fieldLink RX3 83 "CompassBiasModel" "a" "J", .fieldLink RX3 86 "CompassBiasModel" "b" "J", .methodLink RX3 133 yX3_eighthOf, .static yX3_eighthOf, .code yX3_eighthOf cX3_eighthOf 4 (some .int), .methodLink RX3 140 yX3_bit, .static yX3_bit, .code yX3_bit cX3_bit 1 (some .int)] ++ wsX30)
def wsX3_need : List Cond := .code yX3_need cX3_need 3 (some .int) :: ([.constantLong RX3 143 (8), .fieldLink RX3 7 "CompassBiasModel" "state" "[I", .methodLink RX3 20 yX3_in, .static yX3_in, .initialized RX3, .code yX3_in cX3_in 6 (some .boolean)] ++ wsX30)
def wsX3_cover_r1 : List Cond := [Cond.fieldLink RX3 7 "CompassBiasModel" "state" "[I", Cond.methodLink RX3 114 yX3_layTaken, Cond.instanceMethod yX3_layTaken, Cond.selects RX3 yX3_layTaken yX3_layTaken, Cond.initialized RX3, Cond.code yX3_layTaken cX3_layTaken 1 (some .boolean), Cond.methodLink RX3 99 yX3_lay, Cond.instanceMethod yX3_lay, Cond.selects RX3 yX3_lay yX3_lay, Cond.code yX3_lay cX3_lay 2 (some .boolean), Cond.fieldLink RX3 80 "CompassBiasModel" "by" "J", Cond.methodLink RX3 92 yX3_sumSet, Cond.instanceMethod yX3_sumSet, Cond.selects RX3 yX3_sumSet yX3_sumSet, Cond.code yX3_sumSet cX3_sumSet 3 none, Cond.fieldLink RX3 44 "CompassBiasModel" "n" "J", Cond.fieldLink RX3 48 "CompassBiasModel" "sx" "J", Cond.fieldLink RX3 51 "CompassBiasModel" "sy" "J", Cond.fieldLink RX3 54 "CompassBiasModel" "sxx" "J", Cond.fieldLink RX3 57 "CompassBiasModel" "sxy" "J", Cond.fieldLink RX3 60 "CompassBiasModel" "syy" "J", Cond.fieldLink RX3 63 "CompassBiasModel" "sp" "J", Cond.fieldLink RX3 66 "CompassBiasModel" "spx" "J", Cond.fieldLink RX3 69 "CompassBiasModel" "spy" "J"]
def wsX3_cover_r2 : List Cond := [Cond.methodLink RX3 72 yX3_sumOne, Cond.instanceMethod yX3_sumOne, Cond.selects RX3 yX3_sumOne yX3_sumOne, Cond.code yX3_sumOne cX3_sumOne 4 none, Cond.methodLink RX3 40 yX3_power, Cond.static yX3_power, Cond.code yX3_power cX3_power 2 (some .int), Cond.methodLink RX3 96 yX3_layRound, Cond.instanceMethod yX3_layRound, Cond.selects RX3 yX3_layRound yX3_layRound, Cond.code yX3_layRound cX3_layRound 1 none, Cond.fieldLink RX3 83 "CompassBiasModel" "a" "J", Cond.fieldLink RX3 86 "CompassBiasModel" "b" "J", Cond.fieldLink RX3 89 "CompassBiasModel" "c" "J", Cond.methodLink RX3 76 yX3_det, Cond.static yX3_det, Cond.code yX3_det cX3_det 18 (some .long), Cond.methodLink RX3 145 yX3_coverOf, Cond.instanceMethod yX3_coverOf, Cond.selects RX3 yX3_coverOf yX3_coverOf, Cond.code yX3_coverOf cX3_coverOf 4 (some .int), Cond.methodLink RX3 137 yX3_eighthAt, Cond.instanceMethod yX3_eighthAt, Cond.selects RX3 yX3_eighthAt yX3_eighthAt]
def wsX3_cover_r3 : List Cond := [Cond.code yX3_eighthAt cX3_eighthAt 3 (some .int), Cond.constantLong RX3 110 (2), Cond.methodLink RX3 133 yX3_eighthOf, Cond.static yX3_eighthOf, Cond.code yX3_eighthOf cX3_eighthOf 4 (some .int), Cond.methodLink RX3 140 yX3_bit, Cond.static yX3_bit, Cond.code yX3_bit cX3_bit 1 (some .int)]
def wsX3_cover : List Cond := .code yX3_cover cX3_cover 1 (some .int) :: ((wsX3_cover_r1 ++ (wsX3_cover_r2 ++ wsX3_cover_r3)) ++ wsX30)
def wsX3_isPoor_r1 : List Cond := [Cond.fieldLink RX3 7 "CompassBiasModel" "state" "[I", Cond.methodLink RX3 114 yX3_layTaken, Cond.instanceMethod yX3_layTaken, Cond.selects RX3 yX3_layTaken yX3_layTaken, Cond.initialized RX3, Cond.code yX3_layTaken cX3_layTaken 1 (some .boolean), Cond.methodLink RX3 99 yX3_lay, Cond.instanceMethod yX3_lay, Cond.selects RX3 yX3_lay yX3_lay, Cond.code yX3_lay cX3_lay 2 (some .boolean), Cond.fieldLink RX3 80 "CompassBiasModel" "by" "J", Cond.methodLink RX3 92 yX3_sumSet, Cond.instanceMethod yX3_sumSet, Cond.selects RX3 yX3_sumSet yX3_sumSet, Cond.code yX3_sumSet cX3_sumSet 3 none, Cond.fieldLink RX3 44 "CompassBiasModel" "n" "J", Cond.fieldLink RX3 48 "CompassBiasModel" "sx" "J", Cond.fieldLink RX3 51 "CompassBiasModel" "sy" "J", Cond.fieldLink RX3 54 "CompassBiasModel" "sxx" "J", Cond.fieldLink RX3 57 "CompassBiasModel" "sxy" "J", Cond.fieldLink RX3 60 "CompassBiasModel" "syy" "J", Cond.fieldLink RX3 63 "CompassBiasModel" "sp" "J", Cond.fieldLink RX3 66 "CompassBiasModel" "spx" "J", Cond.fieldLink RX3 69 "CompassBiasModel" "spy" "J"]
def wsX3_isPoor_r2 : List Cond := [Cond.methodLink RX3 72 yX3_sumOne, Cond.instanceMethod yX3_sumOne, Cond.selects RX3 yX3_sumOne yX3_sumOne, Cond.code yX3_sumOne cX3_sumOne 4 none, Cond.methodLink RX3 40 yX3_power, Cond.static yX3_power, Cond.code yX3_power cX3_power 2 (some .int), Cond.methodLink RX3 96 yX3_layRound, Cond.instanceMethod yX3_layRound, Cond.selects RX3 yX3_layRound yX3_layRound, Cond.code yX3_layRound cX3_layRound 1 none, Cond.fieldLink RX3 83 "CompassBiasModel" "a" "J", Cond.fieldLink RX3 86 "CompassBiasModel" "b" "J", Cond.fieldLink RX3 89 "CompassBiasModel" "c" "J", Cond.methodLink RX3 76 yX3_det, Cond.static yX3_det, Cond.code yX3_det cX3_det 18 (some .long), Cond.methodLink RX3 145 yX3_coverOf, Cond.instanceMethod yX3_coverOf, Cond.selects RX3 yX3_coverOf yX3_coverOf, Cond.code yX3_coverOf cX3_coverOf 4 (some .int), Cond.methodLink RX3 137 yX3_eighthAt, Cond.instanceMethod yX3_eighthAt, Cond.selects RX3 yX3_eighthAt yX3_eighthAt]
def wsX3_isPoor_r3 : List Cond := [Cond.code yX3_eighthAt cX3_eighthAt 3 (some .int), Cond.constantLong RX3 110 (2), Cond.methodLink RX3 133 yX3_eighthOf, Cond.static yX3_eighthOf, Cond.code yX3_eighthOf cX3_eighthOf 4 (some .int), Cond.methodLink RX3 140 yX3_bit, Cond.static yX3_bit, Cond.code yX3_bit cX3_bit 1 (some .int), Cond.methodLink RX3 36 yX3_size, Cond.static yX3_size, Cond.code yX3_size cX3_size 3 (some .int)]
def wsX3_isPoor : List Cond := .code yX3_isPoor cX3_isPoor 1 (some .boolean) :: ((wsX3_isPoor_r1 ++ (wsX3_isPoor_r2 ++ wsX3_isPoor_r3)) ++ wsX30)
def wsX3_poor_r1 : List Cond := [Cond.methodLink RX3 148 yX3_isPoor, Cond.instanceMethod yX3_isPoor, Cond.selects RX3 yX3_isPoor yX3_isPoor, Cond.initialized RX3, Cond.code yX3_isPoor cX3_isPoor 1 (some .boolean), Cond.fieldLink RX3 7 "CompassBiasModel" "state" "[I", Cond.methodLink RX3 114 yX3_layTaken, Cond.instanceMethod yX3_layTaken, Cond.selects RX3 yX3_layTaken yX3_layTaken, Cond.code yX3_layTaken cX3_layTaken 1 (some .boolean), Cond.methodLink RX3 99 yX3_lay, Cond.instanceMethod yX3_lay, Cond.selects RX3 yX3_lay yX3_lay, Cond.code yX3_lay cX3_lay 2 (some .boolean), Cond.fieldLink RX3 80 "CompassBiasModel" "by" "J", Cond.methodLink RX3 92 yX3_sumSet, Cond.instanceMethod yX3_sumSet, Cond.selects RX3 yX3_sumSet yX3_sumSet, Cond.code yX3_sumSet cX3_sumSet 3 none, Cond.fieldLink RX3 44 "CompassBiasModel" "n" "J", Cond.fieldLink RX3 48 "CompassBiasModel" "sx" "J", Cond.fieldLink RX3 51 "CompassBiasModel" "sy" "J", Cond.fieldLink RX3 54 "CompassBiasModel" "sxx" "J", Cond.fieldLink RX3 57 "CompassBiasModel" "sxy" "J"]
def wsX3_poor_r2 : List Cond := [Cond.fieldLink RX3 60 "CompassBiasModel" "syy" "J", Cond.fieldLink RX3 63 "CompassBiasModel" "sp" "J", Cond.fieldLink RX3 66 "CompassBiasModel" "spx" "J", Cond.fieldLink RX3 69 "CompassBiasModel" "spy" "J", Cond.methodLink RX3 72 yX3_sumOne, Cond.instanceMethod yX3_sumOne, Cond.selects RX3 yX3_sumOne yX3_sumOne, Cond.code yX3_sumOne cX3_sumOne 4 none, Cond.methodLink RX3 40 yX3_power, Cond.static yX3_power, Cond.code yX3_power cX3_power 2 (some .int), Cond.methodLink RX3 96 yX3_layRound, Cond.instanceMethod yX3_layRound, Cond.selects RX3 yX3_layRound yX3_layRound, Cond.code yX3_layRound cX3_layRound 1 none, Cond.fieldLink RX3 83 "CompassBiasModel" "a" "J", Cond.fieldLink RX3 86 "CompassBiasModel" "b" "J", Cond.fieldLink RX3 89 "CompassBiasModel" "c" "J", Cond.methodLink RX3 76 yX3_det, Cond.static yX3_det, Cond.code yX3_det cX3_det 18 (some .long), Cond.methodLink RX3 145 yX3_coverOf, Cond.instanceMethod yX3_coverOf, Cond.selects RX3 yX3_coverOf yX3_coverOf]
def wsX3_poor_r3 : List Cond := [Cond.code yX3_coverOf cX3_coverOf 4 (some .int), Cond.methodLink RX3 137 yX3_eighthAt, Cond.instanceMethod yX3_eighthAt, Cond.selects RX3 yX3_eighthAt yX3_eighthAt, Cond.code yX3_eighthAt cX3_eighthAt 3 (some .int), Cond.constantLong RX3 110 (2), Cond.methodLink RX3 133 yX3_eighthOf, Cond.static yX3_eighthOf, Cond.code yX3_eighthOf cX3_eighthOf 4 (some .int), Cond.methodLink RX3 140 yX3_bit, Cond.static yX3_bit, Cond.code yX3_bit cX3_bit 1 (some .int), Cond.methodLink RX3 36 yX3_size, Cond.static yX3_size, Cond.code yX3_size cX3_size 3 (some .int)]
def wsX3_poor : List Cond := .code yX3_poor cX3_poor 1 (some .int) :: ((wsX3_poor_r1 ++ (wsX3_poor_r2 ++ wsX3_poor_r3)) ++ wsX30)
def wsX3_eighth_r1 : List Cond := [Cond.fieldLink RX3 7 "CompassBiasModel" "state" "[I", Cond.methodLink RX3 32 yX3_isSample, Cond.instanceMethod yX3_isSample, Cond.selects RX3 yX3_isSample yX3_isSample, Cond.initialized RX3, Cond.code yX3_isSample cX3_isSample 2 (some .boolean), Cond.methodLink RX3 20 yX3_in, Cond.static yX3_in, Cond.code yX3_in cX3_in 6 (some .boolean), Cond.methodLink RX3 114 yX3_layTaken, Cond.instanceMethod yX3_layTaken, Cond.selects RX3 yX3_layTaken yX3_layTaken, Cond.code yX3_layTaken cX3_layTaken 1 (some .boolean), Cond.methodLink RX3 99 yX3_lay, Cond.instanceMethod yX3_lay, Cond.selects RX3 yX3_lay yX3_lay, Cond.code yX3_lay cX3_lay 2 (some .boolean), Cond.fieldLink RX3 80 "CompassBiasModel" "by" "J", Cond.methodLink RX3 92 yX3_sumSet, Cond.instanceMethod yX3_sumSet, Cond.selects RX3 yX3_sumSet yX3_sumSet, Cond.code yX3_sumSet cX3_sumSet 3 none, Cond.fieldLink RX3 44 "CompassBiasModel" "n" "J", Cond.fieldLink RX3 48 "CompassBiasModel" "sx" "J"]
def wsX3_eighth_r2 : List Cond := [Cond.fieldLink RX3 51 "CompassBiasModel" "sy" "J", Cond.fieldLink RX3 54 "CompassBiasModel" "sxx" "J", Cond.fieldLink RX3 57 "CompassBiasModel" "sxy" "J", Cond.fieldLink RX3 60 "CompassBiasModel" "syy" "J", Cond.fieldLink RX3 63 "CompassBiasModel" "sp" "J", Cond.fieldLink RX3 66 "CompassBiasModel" "spx" "J", Cond.fieldLink RX3 69 "CompassBiasModel" "spy" "J", Cond.methodLink RX3 72 yX3_sumOne, Cond.instanceMethod yX3_sumOne, Cond.selects RX3 yX3_sumOne yX3_sumOne, Cond.code yX3_sumOne cX3_sumOne 4 none, Cond.methodLink RX3 40 yX3_power, Cond.static yX3_power, Cond.code yX3_power cX3_power 2 (some .int), Cond.methodLink RX3 96 yX3_layRound, Cond.instanceMethod yX3_layRound, Cond.selects RX3 yX3_layRound yX3_layRound, Cond.code yX3_layRound cX3_layRound 1 none, Cond.fieldLink RX3 83 "CompassBiasModel" "a" "J", Cond.fieldLink RX3 86 "CompassBiasModel" "b" "J", Cond.fieldLink RX3 89 "CompassBiasModel" "c" "J", Cond.methodLink RX3 76 yX3_det, Cond.static yX3_det, Cond.code yX3_det cX3_det 18 (some .long)]
def wsX3_eighth_r3 : List Cond := [Cond.methodLink RX3 137 yX3_eighthAt, Cond.instanceMethod yX3_eighthAt, Cond.selects RX3 yX3_eighthAt yX3_eighthAt, Cond.code yX3_eighthAt cX3_eighthAt 3 (some .int), Cond.constantLong RX3 110 (2), Cond.methodLink RX3 133 yX3_eighthOf, Cond.static yX3_eighthOf, Cond.code yX3_eighthOf cX3_eighthOf 4 (some .int)]
def wsX3_eighth : List Cond := .code yX3_eighth cX3_eighth 2 (some .int) :: ((wsX3_eighth_r1 ++ (wsX3_eighth_r2 ++ wsX3_eighth_r3)) ++ wsX30)
def wsX3_points_r1 : List Cond := [Cond.methodLink RX3 28 yX3_isHere, Cond.static yX3_isHere, Cond.initialized RX3, Cond.code yX3_isHere cX3_isHere 2 (some .boolean), Cond.constantLong RX3 24 (-40), Cond.constantLong RX3 26 (40), Cond.methodLink RX3 20 yX3_in, Cond.static yX3_in, Cond.code yX3_in cX3_in 6 (some .boolean), Cond.methodLink RX3 148 yX3_isPoor, Cond.instanceMethod yX3_isPoor, Cond.selects RX3 yX3_isPoor yX3_isPoor, Cond.code yX3_isPoor cX3_isPoor 1 (some .boolean), Cond.fieldLink RX3 7 "CompassBiasModel" "state" "[I", Cond.methodLink RX3 114 yX3_layTaken, Cond.instanceMethod yX3_layTaken, Cond.selects RX3 yX3_layTaken yX3_layTaken, Cond.code yX3_layTaken cX3_layTaken 1 (some .boolean), Cond.methodLink RX3 99 yX3_lay, Cond.instanceMethod yX3_lay, Cond.selects RX3 yX3_lay yX3_lay, Cond.code yX3_lay cX3_lay 2 (some .boolean), Cond.fieldLink RX3 80 "CompassBiasModel" "by" "J", Cond.methodLink RX3 92 yX3_sumSet]
def wsX3_points_r2 : List Cond := [Cond.instanceMethod yX3_sumSet, Cond.selects RX3 yX3_sumSet yX3_sumSet, Cond.code yX3_sumSet cX3_sumSet 3 none, Cond.fieldLink RX3 44 "CompassBiasModel" "n" "J", Cond.fieldLink RX3 48 "CompassBiasModel" "sx" "J", Cond.fieldLink RX3 51 "CompassBiasModel" "sy" "J", Cond.fieldLink RX3 54 "CompassBiasModel" "sxx" "J", Cond.fieldLink RX3 57 "CompassBiasModel" "sxy" "J", Cond.fieldLink RX3 60 "CompassBiasModel" "syy" "J", Cond.fieldLink RX3 63 "CompassBiasModel" "sp" "J", Cond.fieldLink RX3 66 "CompassBiasModel" "spx" "J", Cond.fieldLink RX3 69 "CompassBiasModel" "spy" "J", Cond.methodLink RX3 72 yX3_sumOne, Cond.instanceMethod yX3_sumOne, Cond.selects RX3 yX3_sumOne yX3_sumOne, Cond.code yX3_sumOne cX3_sumOne 4 none, Cond.methodLink RX3 40 yX3_power, Cond.static yX3_power, Cond.code yX3_power cX3_power 2 (some .int), Cond.methodLink RX3 96 yX3_layRound, Cond.instanceMethod yX3_layRound, Cond.selects RX3 yX3_layRound yX3_layRound, Cond.code yX3_layRound cX3_layRound 1 none, Cond.fieldLink RX3 83 "CompassBiasModel" "a" "J"]
def wsX3_points_r3 : List Cond := [Cond.fieldLink RX3 86 "CompassBiasModel" "b" "J", Cond.fieldLink RX3 89 "CompassBiasModel" "c" "J", Cond.methodLink RX3 76 yX3_det, Cond.static yX3_det, Cond.code yX3_det cX3_det 18 (some .long), Cond.methodLink RX3 145 yX3_coverOf, Cond.instanceMethod yX3_coverOf, Cond.selects RX3 yX3_coverOf yX3_coverOf, Cond.code yX3_coverOf cX3_coverOf 4 (some .int), Cond.methodLink RX3 137 yX3_eighthAt, Cond.instanceMethod yX3_eighthAt, Cond.selects RX3 yX3_eighthAt yX3_eighthAt, Cond.code yX3_eighthAt cX3_eighthAt 3 (some .int), Cond.constantLong RX3 110 (2), Cond.methodLink RX3 133 yX3_eighthOf, Cond.static yX3_eighthOf, Cond.code yX3_eighthOf cX3_eighthOf 4 (some .int), Cond.methodLink RX3 140 yX3_bit, Cond.static yX3_bit, Cond.code yX3_bit cX3_bit 1 (some .int), Cond.methodLink RX3 36 yX3_size, Cond.static yX3_size, Cond.code yX3_size cX3_size 3 (some .int)]
def wsX3_points : List Cond := .code yX3_points cX3_points 3 (some .int) :: ((wsX3_points_r1 ++ (wsX3_points_r2 ++ wsX3_points_r3)) ++ wsX30)
def wsX3_bitWith_r1 : List Cond := [Cond.fieldLink RX3 7 "CompassBiasModel" "state" "[I", Cond.fieldLink RX3 80 "CompassBiasModel" "by" "J", Cond.methodLink RX3 92 yX3_sumSet, Cond.instanceMethod yX3_sumSet, Cond.selects RX3 yX3_sumSet yX3_sumSet, Cond.initialized RX3, Cond.code yX3_sumSet cX3_sumSet 3 none, Cond.fieldLink RX3 44 "CompassBiasModel" "n" "J", Cond.fieldLink RX3 48 "CompassBiasModel" "sx" "J", Cond.fieldLink RX3 51 "CompassBiasModel" "sy" "J", Cond.fieldLink RX3 54 "CompassBiasModel" "sxx" "J", Cond.fieldLink RX3 57 "CompassBiasModel" "sxy" "J", Cond.fieldLink RX3 60 "CompassBiasModel" "syy" "J", Cond.fieldLink RX3 63 "CompassBiasModel" "sp" "J", Cond.fieldLink RX3 66 "CompassBiasModel" "spx" "J", Cond.fieldLink RX3 69 "CompassBiasModel" "spy" "J", Cond.methodLink RX3 72 yX3_sumOne, Cond.instanceMethod yX3_sumOne, Cond.selects RX3 yX3_sumOne yX3_sumOne, Cond.code yX3_sumOne cX3_sumOne 4 none, Cond.methodLink RX3 40 yX3_power, Cond.static yX3_power, Cond.code yX3_power cX3_power 2 (some .int), Cond.methodLink RX3 96 yX3_layRound]
def wsX3_bitWith_r2 : List Cond := [Cond.instanceMethod yX3_layRound, Cond.selects RX3 yX3_layRound yX3_layRound, Cond.code yX3_layRound cX3_layRound 1 none, Cond.fieldLink RX3 83 "CompassBiasModel" "a" "J", Cond.fieldLink RX3 86 "CompassBiasModel" "b" "J", Cond.fieldLink RX3 89 "CompassBiasModel" "c" "J", Cond.methodLink RX3 76 yX3_det, Cond.static yX3_det, Cond.code yX3_det cX3_det 18 (some .long), Cond.methodLink RX3 137 yX3_eighthAt, Cond.instanceMethod yX3_eighthAt, Cond.selects RX3 yX3_eighthAt yX3_eighthAt, Cond.code yX3_eighthAt cX3_eighthAt 3 (some .int), Cond.constantLong RX3 110 (2), Cond.methodLink RX3 133 yX3_eighthOf, Cond.static yX3_eighthOf, Cond.code yX3_eighthOf cX3_eighthOf 4 (some .int), Cond.methodLink RX3 140 yX3_bit, Cond.static yX3_bit, Cond.code yX3_bit cX3_bit 1 (some .int), Cond.methodLink RX3 145 yX3_coverOf, Cond.instanceMethod yX3_coverOf, Cond.selects RX3 yX3_coverOf yX3_coverOf, Cond.code yX3_coverOf cX3_coverOf 4 (some .int)]
def wsX3_bitWith_r3 : List Cond := [Cond.methodLink RX3 36 yX3_size, Cond.static yX3_size, Cond.code yX3_size cX3_size 3 (some .int)]
def wsX3_bitWith : List Cond := .code yX3_bitWith cX3_bitWith 4 (some .int) :: ((wsX3_bitWith_r1 ++ (wsX3_bitWith_r2 ++ wsX3_bitWith_r3)) ++ wsX30)
def wsX3_helps_r1 : List Cond := [Cond.fieldLink RX3 7 "CompassBiasModel" "state" "[I", Cond.methodLink RX3 151 yX3_bitWith, Cond.instanceMethod yX3_bitWith, Cond.selects RX3 yX3_bitWith yX3_bitWith, Cond.initialized RX3, Cond.code yX3_bitWith cX3_bitWith 4 (some .int), Cond.fieldLink RX3 80 "CompassBiasModel" "by" "J", Cond.methodLink RX3 92 yX3_sumSet, Cond.instanceMethod yX3_sumSet, Cond.selects RX3 yX3_sumSet yX3_sumSet, Cond.code yX3_sumSet cX3_sumSet 3 none, Cond.fieldLink RX3 44 "CompassBiasModel" "n" "J", Cond.fieldLink RX3 48 "CompassBiasModel" "sx" "J", Cond.fieldLink RX3 51 "CompassBiasModel" "sy" "J", Cond.fieldLink RX3 54 "CompassBiasModel" "sxx" "J", Cond.fieldLink RX3 57 "CompassBiasModel" "sxy" "J", Cond.fieldLink RX3 60 "CompassBiasModel" "syy" "J", Cond.fieldLink RX3 63 "CompassBiasModel" "sp" "J", Cond.fieldLink RX3 66 "CompassBiasModel" "spx" "J", Cond.fieldLink RX3 69 "CompassBiasModel" "spy" "J", Cond.methodLink RX3 72 yX3_sumOne, Cond.instanceMethod yX3_sumOne, Cond.selects RX3 yX3_sumOne yX3_sumOne, Cond.code yX3_sumOne cX3_sumOne 4 none]
def wsX3_helps_r2 : List Cond := [Cond.methodLink RX3 40 yX3_power, Cond.static yX3_power, Cond.code yX3_power cX3_power 2 (some .int), Cond.methodLink RX3 96 yX3_layRound, Cond.instanceMethod yX3_layRound, Cond.selects RX3 yX3_layRound yX3_layRound, Cond.code yX3_layRound cX3_layRound 1 none, Cond.fieldLink RX3 83 "CompassBiasModel" "a" "J", Cond.fieldLink RX3 86 "CompassBiasModel" "b" "J", Cond.fieldLink RX3 89 "CompassBiasModel" "c" "J", Cond.methodLink RX3 76 yX3_det, Cond.static yX3_det, Cond.code yX3_det cX3_det 18 (some .long), Cond.methodLink RX3 137 yX3_eighthAt, Cond.instanceMethod yX3_eighthAt, Cond.selects RX3 yX3_eighthAt yX3_eighthAt, Cond.code yX3_eighthAt cX3_eighthAt 3 (some .int), Cond.constantLong RX3 110 (2), Cond.methodLink RX3 133 yX3_eighthOf, Cond.static yX3_eighthOf, Cond.code yX3_eighthOf cX3_eighthOf 4 (some .int), Cond.methodLink RX3 140 yX3_bit, Cond.static yX3_bit, Cond.code yX3_bit cX3_bit 1 (some .int)]
def wsX3_helps_r3 : List Cond := [Cond.methodLink RX3 145 yX3_coverOf, Cond.instanceMethod yX3_coverOf, Cond.selects RX3 yX3_coverOf yX3_coverOf, Cond.code yX3_coverOf cX3_coverOf 4 (some .int), Cond.methodLink RX3 36 yX3_size, Cond.static yX3_size, Cond.code yX3_size cX3_size 3 (some .int)]
def wsX3_helps : List Cond := .code yX3_helps cX3_helps 4 (some .int) :: ((wsX3_helps_r1 ++ (wsX3_helps_r2 ++ wsX3_helps_r3)) ++ wsX30)
def wsX3_trim_r1 : List Cond := [Cond.constantLong RX3 154 (9999), Cond.fieldLink RX3 7 "CompassBiasModel" "state" "[I", Cond.fieldLink RX3 80 "CompassBiasModel" "by" "J", Cond.methodLink RX3 20 yX3_in, Cond.static yX3_in, Cond.initialized RX3, Cond.code yX3_in cX3_in 6 (some .boolean), Cond.methodLink RX3 114 yX3_layTaken, Cond.instanceMethod yX3_layTaken, Cond.selects RX3 yX3_layTaken yX3_layTaken, Cond.code yX3_layTaken cX3_layTaken 1 (some .boolean), Cond.methodLink RX3 99 yX3_lay, Cond.instanceMethod yX3_lay, Cond.selects RX3 yX3_lay yX3_lay, Cond.code yX3_lay cX3_lay 2 (some .boolean), Cond.methodLink RX3 92 yX3_sumSet, Cond.instanceMethod yX3_sumSet, Cond.selects RX3 yX3_sumSet yX3_sumSet, Cond.code yX3_sumSet cX3_sumSet 3 none, Cond.fieldLink RX3 44 "CompassBiasModel" "n" "J", Cond.fieldLink RX3 48 "CompassBiasModel" "sx" "J", Cond.fieldLink RX3 51 "CompassBiasModel" "sy" "J", Cond.fieldLink RX3 54 "CompassBiasModel" "sxx" "J", Cond.fieldLink RX3 57 "CompassBiasModel" "sxy" "J"]
def wsX3_trim_r2 : List Cond := [Cond.fieldLink RX3 60 "CompassBiasModel" "syy" "J", Cond.fieldLink RX3 63 "CompassBiasModel" "sp" "J", Cond.fieldLink RX3 66 "CompassBiasModel" "spx" "J", Cond.fieldLink RX3 69 "CompassBiasModel" "spy" "J", Cond.methodLink RX3 72 yX3_sumOne, Cond.instanceMethod yX3_sumOne, Cond.selects RX3 yX3_sumOne yX3_sumOne, Cond.code yX3_sumOne cX3_sumOne 4 none, Cond.methodLink RX3 40 yX3_power, Cond.static yX3_power, Cond.code yX3_power cX3_power 2 (some .int), Cond.methodLink RX3 96 yX3_layRound, Cond.instanceMethod yX3_layRound, Cond.selects RX3 yX3_layRound yX3_layRound, Cond.code yX3_layRound cX3_layRound 1 none, Cond.fieldLink RX3 83 "CompassBiasModel" "a" "J", Cond.fieldLink RX3 86 "CompassBiasModel" "b" "J", Cond.fieldLink RX3 89 "CompassBiasModel" "c" "J", Cond.methodLink RX3 76 yX3_det, Cond.static yX3_det, Cond.code yX3_det cX3_det 18 (some .long), Cond.methodLink RX3 130 yX3_worstOf, Cond.instanceMethod yX3_worstOf, Cond.selects RX3 yX3_worstOf yX3_worstOf]
def wsX3_trim_r3 : List Cond := [Cond.code yX3_worstOf cX3_worstOf 4 (some .int), Cond.methodLink RX3 126 yX3_offOf, Cond.instanceMethod yX3_offOf, Cond.selects RX3 yX3_offOf yX3_offOf, Cond.code yX3_offOf cX3_offOf 4 (some .long), Cond.methodLink RX3 102 yX3_plain, Cond.static yX3_plain, Cond.code yX3_plain cX3_plain 2 (some .long), Cond.methodLink RX3 36 yX3_size, Cond.static yX3_size, Cond.code yX3_size cX3_size 3 (some .int)]
def wsX3_trim : List Cond := .code yX3_trim cX3_trim 4 (some .int) :: ((wsX3_trim_r1 ++ (wsX3_trim_r2 ++ wsX3_trim_r3)) ++ wsX30)
def wsX3_isWithin_r1 : List Cond := [Cond.fieldLink RX3 80 "CompassBiasModel" "by" "J", Cond.methodLink RX3 99 yX3_lay, Cond.instanceMethod yX3_lay, Cond.selects RX3 yX3_lay yX3_lay, Cond.initialized RX3, Cond.code yX3_lay cX3_lay 2 (some .boolean), Cond.methodLink RX3 92 yX3_sumSet, Cond.instanceMethod yX3_sumSet, Cond.selects RX3 yX3_sumSet yX3_sumSet, Cond.code yX3_sumSet cX3_sumSet 3 none, Cond.fieldLink RX3 44 "CompassBiasModel" "n" "J", Cond.fieldLink RX3 48 "CompassBiasModel" "sx" "J", Cond.fieldLink RX3 51 "CompassBiasModel" "sy" "J", Cond.fieldLink RX3 54 "CompassBiasModel" "sxx" "J", Cond.fieldLink RX3 57 "CompassBiasModel" "sxy" "J", Cond.fieldLink RX3 60 "CompassBiasModel" "syy" "J", Cond.fieldLink RX3 63 "CompassBiasModel" "sp" "J", Cond.fieldLink RX3 66 "CompassBiasModel" "spx" "J", Cond.fieldLink RX3 69 "CompassBiasModel" "spy" "J", Cond.fieldLink RX3 7 "CompassBiasModel" "state" "[I", Cond.methodLink RX3 72 yX3_sumOne, Cond.instanceMethod yX3_sumOne, Cond.selects RX3 yX3_sumOne yX3_sumOne, Cond.code yX3_sumOne cX3_sumOne 4 none]
def wsX3_isWithin_r2 : List Cond := [Cond.methodLink RX3 40 yX3_power, Cond.static yX3_power, Cond.code yX3_power cX3_power 2 (some .int), Cond.methodLink RX3 96 yX3_layRound, Cond.instanceMethod yX3_layRound, Cond.selects RX3 yX3_layRound yX3_layRound, Cond.code yX3_layRound cX3_layRound 1 none, Cond.fieldLink RX3 83 "CompassBiasModel" "a" "J", Cond.fieldLink RX3 86 "CompassBiasModel" "b" "J", Cond.fieldLink RX3 89 "CompassBiasModel" "c" "J", Cond.methodLink RX3 76 yX3_det, Cond.static yX3_det, Cond.code yX3_det cX3_det 18 (some .long), Cond.methodLink RX3 130 yX3_worstOf, Cond.instanceMethod yX3_worstOf, Cond.selects RX3 yX3_worstOf yX3_worstOf, Cond.code yX3_worstOf cX3_worstOf 4 (some .int), Cond.methodLink RX3 126 yX3_offOf, Cond.instanceMethod yX3_offOf, Cond.selects RX3 yX3_offOf yX3_offOf, Cond.code yX3_offOf cX3_offOf 4 (some .long), Cond.methodLink RX3 102 yX3_plain, Cond.static yX3_plain, Cond.code yX3_plain cX3_plain 2 (some .long)]
def wsX3_isWithin : List Cond := .code yX3_isWithin cX3_isWithin 3 (some .boolean) :: ((wsX3_isWithin_r1 ++ wsX3_isWithin_r2) ++ wsX30)
def wsX3_fewest_r1 : List Cond := [Cond.constantLong RX3 154 (9999), Cond.fieldLink RX3 7 "CompassBiasModel" "state" "[I", Cond.methodLink RX3 20 yX3_in, Cond.static yX3_in, Cond.initialized RX3, Cond.code yX3_in cX3_in 6 (some .boolean), Cond.methodLink RX3 36 yX3_size, Cond.static yX3_size, Cond.code yX3_size cX3_size 3 (some .int), Cond.methodLink RX3 156 yX3_isWithin, Cond.instanceMethod yX3_isWithin, Cond.selects RX3 yX3_isWithin yX3_isWithin, Cond.code yX3_isWithin cX3_isWithin 3 (some .boolean), Cond.fieldLink RX3 80 "CompassBiasModel" "by" "J", Cond.methodLink RX3 99 yX3_lay, Cond.instanceMethod yX3_lay, Cond.selects RX3 yX3_lay yX3_lay, Cond.code yX3_lay cX3_lay 2 (some .boolean), Cond.methodLink RX3 92 yX3_sumSet, Cond.instanceMethod yX3_sumSet, Cond.selects RX3 yX3_sumSet yX3_sumSet, Cond.code yX3_sumSet cX3_sumSet 3 none, Cond.fieldLink RX3 44 "CompassBiasModel" "n" "J", Cond.fieldLink RX3 48 "CompassBiasModel" "sx" "J"]
def wsX3_fewest_r2 : List Cond := [Cond.fieldLink RX3 51 "CompassBiasModel" "sy" "J", Cond.fieldLink RX3 54 "CompassBiasModel" "sxx" "J", Cond.fieldLink RX3 57 "CompassBiasModel" "sxy" "J", Cond.fieldLink RX3 60 "CompassBiasModel" "syy" "J", Cond.fieldLink RX3 63 "CompassBiasModel" "sp" "J", Cond.fieldLink RX3 66 "CompassBiasModel" "spx" "J", Cond.fieldLink RX3 69 "CompassBiasModel" "spy" "J", Cond.methodLink RX3 72 yX3_sumOne, Cond.instanceMethod yX3_sumOne, Cond.selects RX3 yX3_sumOne yX3_sumOne, Cond.code yX3_sumOne cX3_sumOne 4 none, Cond.methodLink RX3 40 yX3_power, Cond.static yX3_power, Cond.code yX3_power cX3_power 2 (some .int), Cond.methodLink RX3 96 yX3_layRound, Cond.instanceMethod yX3_layRound, Cond.selects RX3 yX3_layRound yX3_layRound, Cond.code yX3_layRound cX3_layRound 1 none, Cond.fieldLink RX3 83 "CompassBiasModel" "a" "J", Cond.fieldLink RX3 86 "CompassBiasModel" "b" "J", Cond.fieldLink RX3 89 "CompassBiasModel" "c" "J", Cond.methodLink RX3 76 yX3_det, Cond.static yX3_det, Cond.code yX3_det cX3_det 18 (some .long)]
def wsX3_fewest_r3 : List Cond := [Cond.methodLink RX3 130 yX3_worstOf, Cond.instanceMethod yX3_worstOf, Cond.selects RX3 yX3_worstOf yX3_worstOf, Cond.code yX3_worstOf cX3_worstOf 4 (some .int), Cond.methodLink RX3 126 yX3_offOf, Cond.instanceMethod yX3_offOf, Cond.selects RX3 yX3_offOf yX3_offOf, Cond.code yX3_offOf cX3_offOf 4 (some .long), Cond.methodLink RX3 102 yX3_plain, Cond.static yX3_plain, Cond.code yX3_plain cX3_plain 2 (some .long)]
def wsX3_fewest : List Cond := .code yX3_fewest cX3_fewest 6 (some .int) :: ((wsX3_fewest_r1 ++ (wsX3_fewest_r2 ++ wsX3_fewest_r3)) ++ wsX30)
def wsX3_image : List Cond := .code yX3_image cX3_image 3 (some .int) :: ([.fieldLink RX3 13 "CompassBiasModel" "images" "[I", .fieldLink RX3 7 "CompassBiasModel" "state" "[I", .fieldLink RX3 16 "CompassBiasModel" "isKept" "[Z", .methodLink RX3 20 yX3_in, .static yX3_in, .initialized RX3, .code yX3_in cX3_in 6 (some .boolean)] ++ wsX30)
def wsX3_restore : List Cond := .code yX3_restore cX3_restore 3 (some .int) :: ([.fieldLink RX3 16 "CompassBiasModel" "isKept" "[Z", .fieldLink RX3 7 "CompassBiasModel" "state" "[I", .fieldLink RX3 13 "CompassBiasModel" "images" "[I", .methodLink RX3 20 yX3_in, .static yX3_in, .initialized RX3, .code yX3_in cX3_in 6 (some .boolean)] ++ wsX30)
def wsX3_count_r1 : List Cond := [Cond.fieldLink RX3 7 "CompassBiasModel" "state" "[I", Cond.fieldLink RX3 16 "CompassBiasModel" "isKept" "[Z", Cond.methodLink RX3 36 yX3_size, Cond.static yX3_size, Cond.initialized RX3, Cond.code yX3_size cX3_size 3 (some .int), Cond.methodLink RX3 114 yX3_layTaken, Cond.instanceMethod yX3_layTaken, Cond.selects RX3 yX3_layTaken yX3_layTaken, Cond.code yX3_layTaken cX3_layTaken 1 (some .boolean), Cond.methodLink RX3 99 yX3_lay, Cond.instanceMethod yX3_lay, Cond.selects RX3 yX3_lay yX3_lay, Cond.code yX3_lay cX3_lay 2 (some .boolean), Cond.fieldLink RX3 80 "CompassBiasModel" "by" "J", Cond.methodLink RX3 92 yX3_sumSet, Cond.instanceMethod yX3_sumSet, Cond.selects RX3 yX3_sumSet yX3_sumSet, Cond.code yX3_sumSet cX3_sumSet 3 none, Cond.fieldLink RX3 44 "CompassBiasModel" "n" "J", Cond.fieldLink RX3 48 "CompassBiasModel" "sx" "J", Cond.fieldLink RX3 51 "CompassBiasModel" "sy" "J", Cond.fieldLink RX3 54 "CompassBiasModel" "sxx" "J", Cond.fieldLink RX3 57 "CompassBiasModel" "sxy" "J"]
def wsX3_count_r2 : List Cond := [Cond.fieldLink RX3 60 "CompassBiasModel" "syy" "J", Cond.fieldLink RX3 63 "CompassBiasModel" "sp" "J", Cond.fieldLink RX3 66 "CompassBiasModel" "spx" "J", Cond.fieldLink RX3 69 "CompassBiasModel" "spy" "J", Cond.methodLink RX3 72 yX3_sumOne, Cond.instanceMethod yX3_sumOne, Cond.selects RX3 yX3_sumOne yX3_sumOne, Cond.code yX3_sumOne cX3_sumOne 4 none, Cond.methodLink RX3 40 yX3_power, Cond.static yX3_power, Cond.code yX3_power cX3_power 2 (some .int), Cond.methodLink RX3 96 yX3_layRound, Cond.instanceMethod yX3_layRound, Cond.selects RX3 yX3_layRound yX3_layRound, Cond.code yX3_layRound cX3_layRound 1 none, Cond.fieldLink RX3 83 "CompassBiasModel" "a" "J", Cond.fieldLink RX3 86 "CompassBiasModel" "b" "J", Cond.fieldLink RX3 89 "CompassBiasModel" "c" "J", Cond.methodLink RX3 76 yX3_det, Cond.static yX3_det, Cond.code yX3_det cX3_det 18 (some .long)]
def wsX3_count : List Cond := .code yX3_count cX3_count 2 (some .int) :: ((wsX3_count_r1 ++ wsX3_count_r2) ++ wsX30)
def wsJ9_abs_067f4 : List Cond := .code yJ9_abs_067f4 cJ9_abs_067f4 2 (some .long) :: ([])
def wsL_law_r1 : List Cond := [Cond.classLink RL 7 RX2, Cond.instantiable RX2 6, Cond.initialized RX2, Cond.classLink RL 10 RX3, Cond.instantiable RX3 16, Cond.initialized RX3, Cond.methodLink RL 9 yX2_init, Cond.instanceMethod yX2_init, Cond.code yX2_init cX2_init 1 none, Cond.methodLink RX2 3 objectInit, Cond.instanceMethod objectInit, Cond.code objectInit ⟨#[0xb1]⟩ 1 none, Cond.classLink RX2 9 RX1, Cond.instantiable RX1 5, Cond.initialized RX1, Cond.fieldLink RX2 12 "CompassBias" "now" "LCompassBias$Samples;", Cond.fieldLink RX2 16 "CompassBias" "image0" "LCompassBias$Samples;", Cond.fieldLink RX2 19 "CompassBias" "image1" "LCompassBias$Samples;", Cond.fieldLink RX2 22 "CompassBias" "keptImages" "I", Cond.classLink RX2 26 RX0, Cond.instantiable RX0 13, Cond.initialized RX0, Cond.fieldLink RX2 29 "CompassBias" "theRound" "LCompassBias$Round;", Cond.fieldLink RX2 33 "CompassBias" "trial" "LCompassBias$Round;"]
def wsL_law_r2 : List Cond := [Cond.methodLink RX2 11 yX1_init, Cond.instanceMethod yX1_init, Cond.code yX1_init cX1_init 1 none, Cond.methodLink RX1 3 objectInit, Cond.arrayClass .int, Cond.fieldLink RX1 9 "CompassBias$Samples" "xs" "[I", Cond.fieldLink RX1 15 "CompassBias$Samples" "ys" "[I", Cond.fieldLink RX1 18 "CompassBias$Samples" "many" "I", Cond.fieldLink RX1 22 "CompassBias$Samples" "taken" "I", Cond.fieldLink RX1 25 "CompassBias$Samples" "needed" "I", Cond.instanceMethod yX0_init, Cond.code yX0_init cX0_init 1 none, Cond.methodLink RX0 3 objectInit, Cond.methodLink RL 12 yX3_init, Cond.instanceMethod yX3_init, Cond.code yX3_init cX3_init 1 none, Cond.methodLink RX3 1 objectInit, Cond.fieldLink RX3 7 "CompassBiasModel" "state" "[I", Cond.fieldLink RX3 13 "CompassBiasModel" "images" "[I", Cond.arrayClass .boolean, Cond.fieldLink RX3 16 "CompassBiasModel" "isKept" "[Z", Cond.methodLink RL 13 yX2_add, Cond.instanceMethod yX2_add, Cond.selects RX2 yX2_add yX2_add]
def wsL_law_r3 : List Cond := [Cond.code yX2_add cX2_add 4 (some .int), Cond.fieldLink RX2 40 "CompassBias$Samples" "many" "I", Cond.fieldLink RX2 43 "CompassBias$Samples" "xs" "[I", Cond.fieldLink RX2 47 "CompassBias$Samples" "ys" "[I", Cond.fieldLink RX2 50 "CompassBias$Samples" "taken" "I", Cond.methodLink RX2 36 yX2_isPlace, Cond.static yX2_isPlace, Cond.code yX2_isPlace cX2_isPlace 2 (some .boolean), Cond.methodLink RX2 57 yX2_isBetween, Cond.static yX2_isBetween, Cond.code yX2_isBetween cX2_isBetween 3 (some .boolean), Cond.methodLink RL 17 yX3_add, Cond.instanceMethod yX3_add, Cond.selects RX3 yX3_add yX3_add, Cond.code yX3_add cX3_add 4 (some .int), Cond.methodLink RX3 28 yX3_isHere, Cond.static yX3_isHere, Cond.code yX3_isHere cX3_isHere 2 (some .boolean), Cond.constantLong RX3 24 (-40), Cond.constantLong RX3 26 (40), Cond.methodLink RX3 20 yX3_in, Cond.static yX3_in, Cond.code yX3_in cX3_in 6 (some .boolean), Cond.methodLink RL 18 yX2_clear]
def wsL_law_r4 : List Cond := [Cond.instanceMethod yX2_clear, Cond.selects RX2 yX2_clear yX2_clear, Cond.code yX2_clear cX2_clear 2 (some .int), Cond.methodLink RL 22 yX3_clear, Cond.instanceMethod yX3_clear, Cond.selects RX3 yX3_clear yX3_clear, Cond.code yX3_clear cX3_clear 2 (some .int), Cond.methodLink RL 23 yX2_take, Cond.instanceMethod yX2_take, Cond.selects RX2 yX2_take yX2_take, Cond.code yX2_take cX2_take 3 (some .int), Cond.methodLink RX2 53 yX2_isSample, Cond.instanceMethod yX2_isSample, Cond.selects RX2 yX2_isSample yX2_isSample, Cond.code yX2_isSample cX2_isSample 2 (some .boolean), Cond.methodLink RX2 61 yJ6_bitCount_0f7a4, Cond.static yJ6_bitCount_0f7a4, Cond.initialized RJ6, Cond.code yJ6_bitCount_0f7a4 cJ6_bitCount_0f7a4 1 (some .int), Cond.constant RJ6 265 (1431655765), Cond.constant RJ6 266 (858993459), Cond.constant RJ6 267 (252645135), Cond.methodLink RL 26 yX3_take, Cond.instanceMethod yX3_take]
def wsL_law_r5 : List Cond := [Cond.selects RX3 yX3_take yX3_take, Cond.code yX3_take cX3_take 3 (some .int), Cond.methodLink RX3 32 yX3_isSample, Cond.instanceMethod yX3_isSample, Cond.selects RX3 yX3_isSample yX3_isSample, Cond.code yX3_isSample cX3_isSample 2 (some .boolean), Cond.methodLink RX3 36 yX3_size, Cond.static yX3_size, Cond.code yX3_size cX3_size 3 (some .int), Cond.methodLink RL 27 yX2_of, Cond.instanceMethod yX2_of, Cond.selects RX2 yX2_of yX2_of, Cond.code yX2_of cX2_of 3 (some .int), Cond.methodLink RX2 67 yX2_isIn, Cond.static yX2_isIn, Cond.code yX2_isIn cX2_isIn 2 (some .boolean), Cond.methodLink RX2 70 yX2_powerAt, Cond.static yX2_powerAt, Cond.code yX2_powerAt cX2_powerAt 2 (some .int), Cond.methodLink RL 30 yX3_of, Cond.instanceMethod yX3_of, Cond.selects RX3 yX3_of yX3_of, Cond.code yX3_of cX3_of 3 (some .int), Cond.methodLink RX3 40 yX3_power]
def wsL_law_r6 : List Cond := [Cond.static yX3_power, Cond.code yX3_power cX3_power 2 (some .int), Cond.methodLink RL 31 yX2_round, Cond.instanceMethod yX2_round, Cond.selects RX2 yX2_round yX2_round, Cond.code yX2_round cX2_round 3 (some .long), Cond.constantLong RX2 74 (-1000000000000000002), Cond.constantLong RX2 83 (-1000000000000000005), Cond.fieldLink RX2 85 "CompassBias$Round" "upperC" "J", Cond.fieldLink RX2 97 "CompassBias$Round" "upperA" "J", Cond.fieldLink RX2 100 "CompassBias$Round" "upperB" "J", Cond.fieldLink RX2 103 "CompassBias$Round" "spread" "J", Cond.methodLink RX2 76 yX2_layTheRound, Cond.instanceMethod yX2_layTheRound, Cond.selects RX2 yX2_layTheRound yX2_layTheRound, Cond.code yX2_layTheRound cX2_layTheRound 1 none, Cond.methodLink RX2 135 yX2_sumUp, Cond.instanceMethod yX2_sumUp, Cond.selects RX2 yX2_sumUp yX2_sumUp, Cond.code yX2_sumUp cX2_sumUp 4 none, Cond.methodLink RX2 166 yX0_empty, Cond.instanceMethod yX0_empty, Cond.selects RX0 yX0_empty yX0_empty, Cond.code yX0_empty cX0_empty 1 none]
def wsL_law_r7 : List Cond := [Cond.fieldLink RX0 9 "CompassBias$Round" "many" "J", Cond.fieldLink RX0 15 "CompassBias$Round" "sumX" "J", Cond.fieldLink RX0 18 "CompassBias$Round" "sumY" "J", Cond.fieldLink RX0 21 "CompassBias$Round" "sumXX" "J", Cond.fieldLink RX0 24 "CompassBias$Round" "sumXY" "J", Cond.fieldLink RX0 27 "CompassBias$Round" "sumYY" "J", Cond.fieldLink RX0 30 "CompassBias$Round" "sumPower" "J", Cond.fieldLink RX0 33 "CompassBias$Round" "sumXPower" "J", Cond.fieldLink RX0 36 "CompassBias$Round" "sumYPower" "J", Cond.methodLink RX2 169 yX0_include, Cond.instanceMethod yX0_include, Cond.selects RX0 yX0_include yX0_include, Cond.code yX0_include cX0_include 4 none, Cond.methodLink RX2 163 yX0_lay, Cond.instanceMethod yX0_lay, Cond.selects RX0 yX0_lay yX0_lay, Cond.code yX0_lay cX0_lay 11 none, Cond.fieldLink RX0 43 "CompassBias$Round" "spread" "J", Cond.fieldLink RX0 46 "CompassBias$Round" "upperA" "J", Cond.fieldLink RX0 49 "CompassBias$Round" "upperB" "J", Cond.fieldLink RX0 52 "CompassBias$Round" "upperC" "J", Cond.methodLink RX2 79 yX0_isFlat, Cond.instanceMethod yX0_isFlat, Cond.selects RX0 yX0_isFlat yX0_isFlat]
def wsL_law_r8 : List Cond := [Cond.code yX0_isFlat cX0_isFlat 1 (some .boolean), Cond.methodLink RX2 89 yX0_fullLower, Cond.instanceMethod yX0_fullLower, Cond.selects RX0 yX0_fullLower yX0_fullLower, Cond.code yX0_fullLower cX0_fullLower 1 (some .long), Cond.methodLink RX2 93 yX2_partOfLowest, Cond.static yX2_partOfLowest, Cond.code yX2_partOfLowest cX2_partOfLowest 7 (some .long), Cond.methodLink RX2 153 Lib.MathLoose.abs_long.x, Cond.static Lib.MathLoose.abs_long.x, Cond.initialized "java/lang/Math", Cond.code Lib.MathLoose.abs_long.x Lib.MathLoose.abs_long.code 2 (some .long), Cond.methodLink RX2 159 yX2_greatestDivisor, Cond.static yX2_greatestDivisor, Cond.code yX2_greatestDivisor cX2_greatestDivisor 11 (some .long), Cond.methodLink RL 35 yX3_round, Cond.instanceMethod yX3_round, Cond.selects RX3 yX3_round yX3_round, Cond.code yX3_round cX3_round 3 (some .long), Cond.constantLong RX3 110 (2), Cond.constantLong RX3 112 (-1000000000000000002), Cond.constantLong RX3 118 (-1000000000000000005), Cond.fieldLink RX3 83 "CompassBiasModel" "a" "J", Cond.fieldLink RX3 86 "CompassBiasModel" "b" "J"]
def wsL_law_r9 : List Cond := [Cond.fieldLink RX3 89 "CompassBiasModel" "c" "J", Cond.fieldLink RX3 80 "CompassBiasModel" "by" "J", Cond.methodLink RX3 114 yX3_layTaken, Cond.instanceMethod yX3_layTaken, Cond.selects RX3 yX3_layTaken yX3_layTaken, Cond.code yX3_layTaken cX3_layTaken 1 (some .boolean), Cond.methodLink RX3 99 yX3_lay, Cond.instanceMethod yX3_lay, Cond.selects RX3 yX3_lay yX3_lay, Cond.code yX3_lay cX3_lay 2 (some .boolean), Cond.methodLink RX3 92 yX3_sumSet, Cond.instanceMethod yX3_sumSet, Cond.selects RX3 yX3_sumSet yX3_sumSet, Cond.code yX3_sumSet cX3_sumSet 3 none, Cond.fieldLink RX3 44 "CompassBiasModel" "n" "J", Cond.fieldLink RX3 48 "CompassBiasModel" "sx" "J", Cond.fieldLink RX3 51 "CompassBiasModel" "sy" "J", Cond.fieldLink RX3 54 "CompassBiasModel" "sxx" "J", Cond.fieldLink RX3 57 "CompassBiasModel" "sxy" "J", Cond.fieldLink RX3 60 "CompassBiasModel" "syy" "J", Cond.fieldLink RX3 63 "CompassBiasModel" "sp" "J", Cond.fieldLink RX3 66 "CompassBiasModel" "spx" "J", Cond.fieldLink RX3 69 "CompassBiasModel" "spy" "J", Cond.methodLink RX3 72 yX3_sumOne]
def wsL_law_r10 : List Cond := [Cond.instanceMethod yX3_sumOne, Cond.selects RX3 yX3_sumOne yX3_sumOne, Cond.code yX3_sumOne cX3_sumOne 4 none, Cond.methodLink RX3 96 yX3_layRound, Cond.instanceMethod yX3_layRound, Cond.selects RX3 yX3_layRound yX3_layRound, Cond.code yX3_layRound cX3_layRound 1 none, Cond.methodLink RX3 76 yX3_det, Cond.static yX3_det, Cond.code yX3_det cX3_det 18 (some .long), Cond.methodLink RX3 120 yX3_told, Cond.static yX3_told, Cond.code yX3_told cX3_told 7 (some .long), Cond.methodLink RX3 102 yX3_plain, Cond.static yX3_plain, Cond.code yX3_plain cX3_plain 2 (some .long), Cond.methodLink RX3 106 yX3_common, Cond.static yX3_common, Cond.code yX3_common cX3_common 10 (some .long), Cond.methodLink RL 36 yX2_middle, Cond.instanceMethod yX2_middle, Cond.selects RX2 yX2_middle yX2_middle, Cond.code yX2_middle cX2_middle 3 (some .long), Cond.constantLong RX2 106 (2)]
def wsL_law_r11 : List Cond := [Cond.methodLink RL 39 yX3_middle, Cond.instanceMethod yX3_middle, Cond.selects RX3 yX3_middle yX3_middle, Cond.code yX3_middle cX3_middle 3 (some .long), Cond.methodLink RL 40 yX2_off, Cond.instanceMethod yX2_off, Cond.selects RX2 yX2_off yX2_off, Cond.code yX2_off cX2_off 5 (some .long), Cond.constantLong RX2 108 (-1000000000000000001), Cond.methodLink RX2 110 yX0_offUpperAt, Cond.instanceMethod yX0_offUpperAt, Cond.selects RX0 yX0_offUpperAt yX0_offUpperAt, Cond.code yX0_offUpperAt cX0_offUpperAt 3 (some .long), Cond.methodLink RL 43 yX3_off, Cond.instanceMethod yX3_off, Cond.selects RX3 yX3_off yX3_off, Cond.code yX3_off cX3_off 3 (some .long), Cond.constantLong RX3 124 (-1000000000000000001), Cond.methodLink RX3 126 yX3_offOf, Cond.instanceMethod yX3_offOf, Cond.selects RX3 yX3_offOf yX3_offOf, Cond.code yX3_offOf cX3_offOf 4 (some .long), Cond.methodLink RL 44 yX2_worst, Cond.instanceMethod yX2_worst]
def wsL_law_r12 : List Cond := [Cond.selects RX2 yX2_worst yX2_worst, Cond.code yX2_worst cX2_worst 5 (some .int), Cond.methodLink RX2 114 yX2_worstSample, Cond.instanceMethod yX2_worstSample, Cond.selects RX2 yX2_worstSample yX2_worstSample, Cond.code yX2_worstSample cX2_worstSample 7 (some .int), Cond.constantLong RX2 173 (-1), Cond.methodLink RX2 118 yX2_sizeUpper, Cond.instanceMethod yX2_sizeUpper, Cond.selects RX2 yX2_sizeUpper yX2_sizeUpper, Cond.code yX2_sizeUpper cX2_sizeUpper 3 (some .long), Cond.methodLink RL 48 yX3_worst, Cond.instanceMethod yX3_worst, Cond.selects RX3 yX3_worst yX3_worst, Cond.code yX3_worst cX3_worst 3 (some .int), Cond.methodLink RX3 130 yX3_worstOf, Cond.instanceMethod yX3_worstOf, Cond.selects RX3 yX3_worstOf yX3_worstOf, Cond.code yX3_worstOf cX3_worstOf 4 (some .int), Cond.methodLink RL 49 yX2_need, Cond.instanceMethod yX2_need, Cond.selects RX2 yX2_need yX2_need, Cond.code yX2_need cX2_need 3 (some .int), Cond.fieldLink RX2 122 "CompassBias$Samples" "needed" "I"]
def wsL_law_r13 : List Cond := [Cond.methodLink RL 52 yX3_need, Cond.instanceMethod yX3_need, Cond.selects RX3 yX3_need yX3_need, Cond.code yX3_need cX3_need 3 (some .int), Cond.constantLong RX3 143 (8), Cond.methodLink RL 53 yX2_cover, Cond.instanceMethod yX2_cover, Cond.selects RX2 yX2_cover yX2_cover, Cond.code yX2_cover cX2_cover 1 (some .int), Cond.methodLink RX2 125 yX2_coverBy, Cond.instanceMethod yX2_coverBy, Cond.selects RX2 yX2_coverBy yX2_coverBy, Cond.code yX2_coverBy cX2_coverBy 4 (some .int), Cond.methodLink RX2 132 yX0_eighthAt, Cond.instanceMethod yX0_eighthAt, Cond.selects RX0 yX0_eighthAt yX0_eighthAt, Cond.code yX0_eighthAt cX0_eighthAt 3 (some .int), Cond.constantLong RX0 55 (2), Cond.methodLink RX0 57 yX0_eighthTowards, Cond.static yX0_eighthTowards, Cond.code yX0_eighthTowards cX0_eighthTowards 4 (some .int), Cond.methodLink RX2 175 yX2_setOfEighth, Cond.static yX2_setOfEighth, Cond.code yX2_setOfEighth cX2_setOfEighth 1 (some .int)]
def wsL_law_r14 : List Cond := [Cond.methodLink RL 56 yX3_cover, Cond.instanceMethod yX3_cover, Cond.selects RX3 yX3_cover yX3_cover, Cond.code yX3_cover cX3_cover 1 (some .int), Cond.methodLink RX3 145 yX3_coverOf, Cond.instanceMethod yX3_coverOf, Cond.selects RX3 yX3_coverOf yX3_coverOf, Cond.code yX3_coverOf cX3_coverOf 4 (some .int), Cond.methodLink RX3 137 yX3_eighthAt, Cond.instanceMethod yX3_eighthAt, Cond.selects RX3 yX3_eighthAt yX3_eighthAt, Cond.code yX3_eighthAt cX3_eighthAt 3 (some .int), Cond.methodLink RX3 133 yX3_eighthOf, Cond.static yX3_eighthOf, Cond.code yX3_eighthOf cX3_eighthOf 4 (some .int), Cond.methodLink RX3 140 yX3_bit, Cond.static yX3_bit, Cond.code yX3_bit cX3_bit 1 (some .int), Cond.methodLink RL 57 yX2_poor, Cond.instanceMethod yX2_poor, Cond.selects RX2 yX2_poor yX2_poor, Cond.code yX2_poor cX2_poor 1 (some .int), Cond.methodLink RX2 129 yX2_isTheRoundPoor, Cond.instanceMethod yX2_isTheRoundPoor]
def wsL_law_r15 : List Cond := [Cond.selects RX2 yX2_isTheRoundPoor yX2_isTheRoundPoor, Cond.code yX2_isTheRoundPoor cX2_isTheRoundPoor 1 (some .boolean), Cond.methodLink RL 60 yX3_poor, Cond.instanceMethod yX3_poor, Cond.selects RX3 yX3_poor yX3_poor, Cond.code yX3_poor cX3_poor 1 (some .int), Cond.methodLink RX3 148 yX3_isPoor, Cond.instanceMethod yX3_isPoor, Cond.selects RX3 yX3_isPoor yX3_isPoor, Cond.code yX3_isPoor cX3_isPoor 1 (some .boolean), Cond.methodLink RL 61 yX2_eighth, Cond.instanceMethod yX2_eighth, Cond.selects RX2 yX2_eighth yX2_eighth, Cond.code yX2_eighth cX2_eighth 2 (some .int), Cond.methodLink RL 64 yX3_eighth, Cond.instanceMethod yX3_eighth, Cond.selects RX3 yX3_eighth yX3_eighth, Cond.code yX3_eighth cX3_eighth 2 (some .int), Cond.methodLink RL 65 yX2_points, Cond.instanceMethod yX2_points, Cond.selects RX2 yX2_points yX2_points, Cond.code yX2_points cX2_points 3 (some .int), Cond.methodLink RL 68 yX3_points, Cond.instanceMethod yX3_points]
def wsL_law_r16 : List Cond := [Cond.selects RX3 yX3_points yX3_points, Cond.code yX3_points cX3_points 3 (some .int), Cond.methodLink RL 69 yX2_helps, Cond.instanceMethod yX2_helps, Cond.selects RX2 yX2_helps yX2_helps, Cond.code yX2_helps cX2_helps 4 (some .int), Cond.methodLink RX2 139 yX2_helpAt, Cond.instanceMethod yX2_helpAt, Cond.selects RX2 yX2_helpAt yX2_helpAt, Cond.code yX2_helpAt cX2_helpAt 6 (some .int), Cond.methodLink RX2 178 yX0_startFrom, Cond.instanceMethod yX0_startFrom, Cond.selects RX0 yX0_startFrom yX0_startFrom, Cond.code yX0_startFrom cX0_startFrom 2 none, Cond.methodLink RL 72 yX3_helps, Cond.instanceMethod yX3_helps, Cond.selects RX3 yX3_helps yX3_helps, Cond.code yX3_helps cX3_helps 4 (some .int), Cond.methodLink RX3 151 yX3_bitWith, Cond.instanceMethod yX3_bitWith, Cond.selects RX3 yX3_bitWith yX3_bitWith, Cond.code yX3_bitWith cX3_bitWith 4 (some .int), Cond.methodLink RL 73 yX2_trim, Cond.instanceMethod yX2_trim]
def wsL_law_r17 : List Cond := [Cond.selects RX2 yX2_trim yX2_trim, Cond.code yX2_trim cX2_trim 4 (some .int), Cond.methodLink RX2 143 yX2_isToTrim, Cond.instanceMethod yX2_isToTrim, Cond.selects RX2 yX2_isToTrim yX2_isToTrim, Cond.code yX2_isToTrim cX2_isToTrim 2 (some .boolean), Cond.methodLink RX2 182 yX2_isSizeAbove, Cond.instanceMethod yX2_isSizeAbove, Cond.selects RX2 yX2_isSizeAbove yX2_isSizeAbove, Cond.code yX2_isSizeAbove cX2_isSizeAbove 4 (some .boolean), Cond.methodLink RL 76 yX3_trim, Cond.instanceMethod yX3_trim, Cond.selects RX3 yX3_trim yX3_trim, Cond.code yX3_trim cX3_trim 4 (some .int), Cond.constantLong RX3 154 (9999), Cond.methodLink RL 77 yX2_fewest, Cond.instanceMethod yX2_fewest, Cond.selects RX2 yX2_fewest yX2_fewest, Cond.code yX2_fewest cX2_fewest 6 (some .int), Cond.methodLink RX2 146 yX2_leastSetToLeaveOut, Cond.instanceMethod yX2_leastSetToLeaveOut, Cond.selects RX2 yX2_leastSetToLeaveOut yX2_leastSetToLeaveOut, Cond.code yX2_leastSetToLeaveOut cX2_leastSetToLeaveOut 5 (some .int), Cond.methodLink RX2 186 yX2_isWithin]
def wsL_law_r18 : List Cond := [Cond.instanceMethod yX2_isWithin, Cond.selects RX2 yX2_isWithin yX2_isWithin, Cond.code yX2_isWithin cX2_isWithin 4 (some .boolean), Cond.methodLink RL 80 yX3_fewest, Cond.instanceMethod yX3_fewest, Cond.selects RX3 yX3_fewest yX3_fewest, Cond.code yX3_fewest cX3_fewest 6 (some .int), Cond.methodLink RX3 156 yX3_isWithin, Cond.instanceMethod yX3_isWithin, Cond.selects RX3 yX3_isWithin yX3_isWithin, Cond.code yX3_isWithin cX3_isWithin 3 (some .boolean), Cond.methodLink RL 81 yX2_image, Cond.instanceMethod yX2_image, Cond.selects RX2 yX2_image yX2_image, Cond.code yX2_image cX2_image 2 (some .int), Cond.methodLink RX2 149 yX1_become, Cond.instanceMethod yX1_become, Cond.selects RX1 yX1_become yX1_become, Cond.code yX1_become cX1_become 3 none, Cond.methodLink RL 84 yX3_image, Cond.instanceMethod yX3_image, Cond.selects RX3 yX3_image yX3_image, Cond.code yX3_image cX3_image 3 (some .int), Cond.methodLink RL 85 yX2_restore]
def wsL_law_r19 : List Cond := [Cond.instanceMethod yX2_restore, Cond.selects RX2 yX2_restore yX2_restore, Cond.code yX2_restore cX2_restore 2 (some .int), Cond.methodLink RL 88 yX3_restore, Cond.instanceMethod yX3_restore, Cond.selects RX3 yX3_restore yX3_restore, Cond.code yX3_restore cX3_restore 3 (some .int), Cond.methodLink RL 89 yX2_count, Cond.instanceMethod yX2_count, Cond.selects RX2 yX2_count yX2_count, Cond.code yX2_count cX2_count 2 (some .int), Cond.methodLink RL 92 yX3_count, Cond.instanceMethod yX3_count, Cond.selects RX3 yX3_count yX3_count, Cond.code yX3_count cX3_count 2 (some .int)]
def wsL_law : List Cond := (wsL_law_r1 ++ (wsL_law_r2 ++ (wsL_law_r3 ++ (wsL_law_r4 ++ (wsL_law_r5 ++ (wsL_law_r6 ++ (wsL_law_r7 ++ (wsL_law_r8 ++ (wsL_law_r9 ++ (wsL_law_r10 ++ (wsL_law_r11 ++ (wsL_law_r12 ++ (wsL_law_r13 ++ (wsL_law_r14 ++ (wsL_law_r15 ++ (wsL_law_r16 ++ (wsL_law_r17 ++ (wsL_law_r18 ++ wsL_law_r19)))))))))))))))))) ++ wsX20 ++ wsX30 ++ wsX10 ++ wsX00 ++ ([] : List Cond)
end
section
theorem dX0_init_0 : decode cX0_init 0 = .ok (.aload_n 0, 1) := by decide +kernel
theorem dX0_init_1 : decode cX0_init 1 = .ok (.invokespecial 3, 3) := by decide +kernel
theorem dX0_init_4 : decode cX0_init 4 = .ok (.return_, 1) := by decide +kernel
theorem dX0_empty_0 : decode cX0_empty 0 = .ok (.aload_n 0, 1) := by decide +kernel
theorem dX0_empty_1 : decode cX0_empty 1 = .ok (.lconst 0, 1) := by decide +kernel
theorem dX0_empty_2 : decode cX0_empty 2 = .ok (.putfield 9, 3) := by decide +kernel
theorem dX0_empty_5 : decode cX0_empty 5 = .ok (.aload_n 0, 1) := by decide +kernel
theorem dX0_empty_6 : decode cX0_empty 6 = .ok (.lconst 0, 1) := by decide +kernel
theorem dX0_empty_7 : decode cX0_empty 7 = .ok (.putfield 15, 3) := by decide +kernel
theorem dX0_empty_10 : decode cX0_empty 10 = .ok (.aload_n 0, 1) := by decide +kernel
theorem dX0_empty_11 : decode cX0_empty 11 = .ok (.lconst 0, 1) := by decide +kernel
theorem dX0_empty_12 : decode cX0_empty 12 = .ok (.putfield 18, 3) := by decide +kernel
theorem dX0_empty_15 : decode cX0_empty 15 = .ok (.aload_n 0, 1) := by decide +kernel
theorem dX0_empty_16 : decode cX0_empty 16 = .ok (.lconst 0, 1) := by decide +kernel
theorem dX0_empty_17 : decode cX0_empty 17 = .ok (.putfield 21, 3) := by decide +kernel
theorem dX0_empty_20 : decode cX0_empty 20 = .ok (.aload_n 0, 1) := by decide +kernel
theorem dX0_empty_21 : decode cX0_empty 21 = .ok (.lconst 0, 1) := by decide +kernel
theorem dX0_empty_22 : decode cX0_empty 22 = .ok (.putfield 24, 3) := by decide +kernel
theorem dX0_empty_25 : decode cX0_empty 25 = .ok (.aload_n 0, 1) := by decide +kernel
theorem dX0_empty_26 : decode cX0_empty 26 = .ok (.lconst 0, 1) := by decide +kernel
theorem dX0_empty_27 : decode cX0_empty 27 = .ok (.putfield 27, 3) := by decide +kernel
theorem dX0_empty_30 : decode cX0_empty 30 = .ok (.aload_n 0, 1) := by decide +kernel
theorem dX0_empty_31 : decode cX0_empty 31 = .ok (.lconst 0, 1) := by decide +kernel
theorem dX0_empty_32 : decode cX0_empty 32 = .ok (.putfield 30, 3) := by decide +kernel
theorem dX0_empty_35 : decode cX0_empty 35 = .ok (.aload_n 0, 1) := by decide +kernel
theorem dX0_empty_36 : decode cX0_empty 36 = .ok (.lconst 0, 1) := by decide +kernel
theorem dX0_empty_37 : decode cX0_empty 37 = .ok (.putfield 33, 3) := by decide +kernel
theorem dX0_empty_40 : decode cX0_empty 40 = .ok (.aload_n 0, 1) := by decide +kernel
theorem dX0_empty_41 : decode cX0_empty 41 = .ok (.lconst 0, 1) := by decide +kernel
theorem dX0_empty_42 : decode cX0_empty 42 = .ok (.putfield 36, 3) := by decide +kernel
theorem dX0_empty_45 : decode cX0_empty 45 = .ok (.return_, 1) := by decide +kernel
theorem dX0_startFrom_0 : decode cX0_startFrom 0 = .ok (.aload_n 0, 1) := by decide +kernel
theorem dX0_startFrom_1 : decode cX0_startFrom 1 = .ok (.aload_n 1, 1) := by decide +kernel
theorem dX0_startFrom_2 : decode cX0_startFrom 2 = .ok (.getfield 9, 3) := by decide +kernel
theorem dX0_startFrom_5 : decode cX0_startFrom 5 = .ok (.putfield 9, 3) := by decide +kernel
theorem dX0_startFrom_8 : decode cX0_startFrom 8 = .ok (.aload_n 0, 1) := by decide +kernel
theorem dX0_startFrom_9 : decode cX0_startFrom 9 = .ok (.aload_n 1, 1) := by decide +kernel
theorem dX0_startFrom_10 : decode cX0_startFrom 10 = .ok (.getfield 15, 3) := by decide +kernel
theorem dX0_startFrom_13 : decode cX0_startFrom 13 = .ok (.putfield 15, 3) := by decide +kernel
theorem dX0_startFrom_16 : decode cX0_startFrom 16 = .ok (.aload_n 0, 1) := by decide +kernel
theorem dX0_startFrom_17 : decode cX0_startFrom 17 = .ok (.aload_n 1, 1) := by decide +kernel
theorem dX0_startFrom_18 : decode cX0_startFrom 18 = .ok (.getfield 18, 3) := by decide +kernel
theorem dX0_startFrom_21 : decode cX0_startFrom 21 = .ok (.putfield 18, 3) := by decide +kernel
theorem dX0_startFrom_24 : decode cX0_startFrom 24 = .ok (.aload_n 0, 1) := by decide +kernel
theorem dX0_startFrom_25 : decode cX0_startFrom 25 = .ok (.aload_n 1, 1) := by decide +kernel
theorem dX0_startFrom_26 : decode cX0_startFrom 26 = .ok (.getfield 21, 3) := by decide +kernel
theorem dX0_startFrom_29 : decode cX0_startFrom 29 = .ok (.putfield 21, 3) := by decide +kernel
theorem dX0_startFrom_32 : decode cX0_startFrom 32 = .ok (.aload_n 0, 1) := by decide +kernel
theorem dX0_startFrom_33 : decode cX0_startFrom 33 = .ok (.aload_n 1, 1) := by decide +kernel
theorem dX0_startFrom_34 : decode cX0_startFrom 34 = .ok (.getfield 24, 3) := by decide +kernel
theorem dX0_startFrom_37 : decode cX0_startFrom 37 = .ok (.putfield 24, 3) := by decide +kernel
theorem dX0_startFrom_40 : decode cX0_startFrom 40 = .ok (.aload_n 0, 1) := by decide +kernel
theorem dX0_startFrom_41 : decode cX0_startFrom 41 = .ok (.aload_n 1, 1) := by decide +kernel
theorem dX0_startFrom_42 : decode cX0_startFrom 42 = .ok (.getfield 27, 3) := by decide +kernel
theorem dX0_startFrom_45 : decode cX0_startFrom 45 = .ok (.putfield 27, 3) := by decide +kernel
theorem dX0_startFrom_48 : decode cX0_startFrom 48 = .ok (.aload_n 0, 1) := by decide +kernel
theorem dX0_startFrom_49 : decode cX0_startFrom 49 = .ok (.aload_n 1, 1) := by decide +kernel
theorem dX0_startFrom_50 : decode cX0_startFrom 50 = .ok (.getfield 30, 3) := by decide +kernel
theorem dX0_startFrom_53 : decode cX0_startFrom 53 = .ok (.putfield 30, 3) := by decide +kernel
theorem dX0_startFrom_56 : decode cX0_startFrom 56 = .ok (.aload_n 0, 1) := by decide +kernel
theorem dX0_startFrom_57 : decode cX0_startFrom 57 = .ok (.aload_n 1, 1) := by decide +kernel
theorem dX0_startFrom_58 : decode cX0_startFrom 58 = .ok (.getfield 33, 3) := by decide +kernel
theorem dX0_startFrom_61 : decode cX0_startFrom 61 = .ok (.putfield 33, 3) := by decide +kernel
theorem dX0_startFrom_64 : decode cX0_startFrom 64 = .ok (.aload_n 0, 1) := by decide +kernel
theorem dX0_startFrom_65 : decode cX0_startFrom 65 = .ok (.aload_n 1, 1) := by decide +kernel
theorem dX0_startFrom_66 : decode cX0_startFrom 66 = .ok (.getfield 36, 3) := by decide +kernel
theorem dX0_startFrom_69 : decode cX0_startFrom 69 = .ok (.putfield 36, 3) := by decide +kernel
theorem dX0_startFrom_72 : decode cX0_startFrom 72 = .ok (.return_, 1) := by decide +kernel
set_option maxRecDepth 20000 in
theorem ggX0_include_X2_powerAt : GoodIn wsX0_include wsX2_powerAt := goodIn_r _ [12] (by decide +kernel) (by decide +kernel)
set_option maxRecDepth 20000 in
theorem gX0_include_X2_powerAt_n39 : GoodIn wsX0_include (wsX2_powerAt) := ggX0_include_X2_powerAt
theorem dX0_include_0 : decode cX0_include 0 = .ok (.iload_n 1, 1) := by decide +kernel
theorem dX0_include_1 : decode cX0_include 1 = .ok (.iload_n 2, 1) := by decide +kernel
theorem dX0_include_2 : decode cX0_include 2 = .ok (.invokestatic 39, 3) := by decide +kernel
theorem dX0_include_5 : decode cX0_include 5 = .ok (.istore_n 3, 1) := by decide +kernel
theorem dX0_include_6 : decode cX0_include 6 = .ok (.aload_n 0, 1) := by decide +kernel
theorem dX0_include_7 : decode cX0_include 7 = .ok (.dup, 1) := by decide +kernel
theorem dX0_include_8 : decode cX0_include 8 = .ok (.getfield 9, 3) := by decide +kernel
theorem dX0_include_11 : decode cX0_include 11 = .ok (.lconst 1, 1) := by decide +kernel
theorem dX0_include_12 : decode cX0_include 12 = .ok (.ladd, 1) := by decide +kernel
theorem dX0_include_13 : decode cX0_include 13 = .ok (.putfield 9, 3) := by decide +kernel
theorem dX0_include_16 : decode cX0_include 16 = .ok (.aload_n 0, 1) := by decide +kernel
theorem dX0_include_17 : decode cX0_include 17 = .ok (.dup, 1) := by decide +kernel
theorem dX0_include_18 : decode cX0_include 18 = .ok (.getfield 15, 3) := by decide +kernel
theorem dX0_include_21 : decode cX0_include 21 = .ok (.iload_n 1, 1) := by decide +kernel
theorem dX0_include_22 : decode cX0_include 22 = .ok (.i2l, 1) := by decide +kernel
theorem dX0_include_23 : decode cX0_include 23 = .ok (.ladd, 1) := by decide +kernel
theorem dX0_include_24 : decode cX0_include 24 = .ok (.putfield 15, 3) := by decide +kernel
theorem dX0_include_27 : decode cX0_include 27 = .ok (.aload_n 0, 1) := by decide +kernel
theorem dX0_include_28 : decode cX0_include 28 = .ok (.dup, 1) := by decide +kernel
theorem dX0_include_29 : decode cX0_include 29 = .ok (.getfield 18, 3) := by decide +kernel
theorem dX0_include_32 : decode cX0_include 32 = .ok (.iload_n 2, 1) := by decide +kernel
theorem dX0_include_33 : decode cX0_include 33 = .ok (.i2l, 1) := by decide +kernel
theorem dX0_include_34 : decode cX0_include 34 = .ok (.ladd, 1) := by decide +kernel
theorem dX0_include_35 : decode cX0_include 35 = .ok (.putfield 18, 3) := by decide +kernel
theorem dX0_include_38 : decode cX0_include 38 = .ok (.aload_n 0, 1) := by decide +kernel
theorem dX0_include_39 : decode cX0_include 39 = .ok (.dup, 1) := by decide +kernel
theorem dX0_include_40 : decode cX0_include 40 = .ok (.getfield 21, 3) := by decide +kernel
theorem dX0_include_43 : decode cX0_include 43 = .ok (.iload_n 1, 1) := by decide +kernel
theorem dX0_include_44 : decode cX0_include 44 = .ok (.iload_n 1, 1) := by decide +kernel
theorem dX0_include_45 : decode cX0_include 45 = .ok (.imul, 1) := by decide +kernel
theorem dX0_include_46 : decode cX0_include 46 = .ok (.i2l, 1) := by decide +kernel
theorem dX0_include_47 : decode cX0_include 47 = .ok (.ladd, 1) := by decide +kernel
theorem dX0_include_48 : decode cX0_include 48 = .ok (.putfield 21, 3) := by decide +kernel
theorem dX0_include_51 : decode cX0_include 51 = .ok (.aload_n 0, 1) := by decide +kernel
theorem dX0_include_52 : decode cX0_include 52 = .ok (.dup, 1) := by decide +kernel
theorem dX0_include_53 : decode cX0_include 53 = .ok (.getfield 24, 3) := by decide +kernel
theorem dX0_include_56 : decode cX0_include 56 = .ok (.iload_n 1, 1) := by decide +kernel
theorem dX0_include_57 : decode cX0_include 57 = .ok (.iload_n 2, 1) := by decide +kernel
theorem dX0_include_58 : decode cX0_include 58 = .ok (.imul, 1) := by decide +kernel
theorem dX0_include_59 : decode cX0_include 59 = .ok (.i2l, 1) := by decide +kernel
theorem dX0_include_60 : decode cX0_include 60 = .ok (.ladd, 1) := by decide +kernel
theorem dX0_include_61 : decode cX0_include 61 = .ok (.putfield 24, 3) := by decide +kernel
theorem dX0_include_64 : decode cX0_include 64 = .ok (.aload_n 0, 1) := by decide +kernel
theorem dX0_include_65 : decode cX0_include 65 = .ok (.dup, 1) := by decide +kernel
theorem dX0_include_66 : decode cX0_include 66 = .ok (.getfield 27, 3) := by decide +kernel
theorem dX0_include_69 : decode cX0_include 69 = .ok (.iload_n 2, 1) := by decide +kernel
theorem dX0_include_70 : decode cX0_include 70 = .ok (.iload_n 2, 1) := by decide +kernel
theorem dX0_include_71 : decode cX0_include 71 = .ok (.imul, 1) := by decide +kernel
theorem dX0_include_72 : decode cX0_include 72 = .ok (.i2l, 1) := by decide +kernel
theorem dX0_include_73 : decode cX0_include 73 = .ok (.ladd, 1) := by decide +kernel
theorem dX0_include_74 : decode cX0_include 74 = .ok (.putfield 27, 3) := by decide +kernel
theorem dX0_include_77 : decode cX0_include 77 = .ok (.aload_n 0, 1) := by decide +kernel
theorem dX0_include_78 : decode cX0_include 78 = .ok (.dup, 1) := by decide +kernel
theorem dX0_include_79 : decode cX0_include 79 = .ok (.getfield 30, 3) := by decide +kernel
theorem dX0_include_82 : decode cX0_include 82 = .ok (.iload_n 3, 1) := by decide +kernel
theorem dX0_include_83 : decode cX0_include 83 = .ok (.i2l, 1) := by decide +kernel
theorem dX0_include_84 : decode cX0_include 84 = .ok (.ladd, 1) := by decide +kernel
theorem dX0_include_85 : decode cX0_include 85 = .ok (.putfield 30, 3) := by decide +kernel
theorem dX0_include_88 : decode cX0_include 88 = .ok (.aload_n 0, 1) := by decide +kernel
theorem dX0_include_89 : decode cX0_include 89 = .ok (.dup, 1) := by decide +kernel
theorem dX0_include_90 : decode cX0_include 90 = .ok (.getfield 33, 3) := by decide +kernel
theorem dX0_include_93 : decode cX0_include 93 = .ok (.iload_n 1, 1) := by decide +kernel
theorem dX0_include_94 : decode cX0_include 94 = .ok (.iload_n 3, 1) := by decide +kernel
theorem dX0_include_95 : decode cX0_include 95 = .ok (.imul, 1) := by decide +kernel
theorem dX0_include_96 : decode cX0_include 96 = .ok (.i2l, 1) := by decide +kernel
theorem dX0_include_97 : decode cX0_include 97 = .ok (.ladd, 1) := by decide +kernel
theorem dX0_include_98 : decode cX0_include 98 = .ok (.putfield 33, 3) := by decide +kernel
theorem dX0_include_101 : decode cX0_include 101 = .ok (.aload_n 0, 1) := by decide +kernel
theorem dX0_include_102 : decode cX0_include 102 = .ok (.dup, 1) := by decide +kernel
theorem dX0_include_103 : decode cX0_include 103 = .ok (.getfield 36, 3) := by decide +kernel
theorem dX0_include_106 : decode cX0_include 106 = .ok (.iload_n 2, 1) := by decide +kernel
theorem dX0_include_107 : decode cX0_include 107 = .ok (.iload_n 3, 1) := by decide +kernel
theorem dX0_include_108 : decode cX0_include 108 = .ok (.imul, 1) := by decide +kernel
theorem dX0_include_109 : decode cX0_include 109 = .ok (.i2l, 1) := by decide +kernel
theorem dX0_include_110 : decode cX0_include 110 = .ok (.ladd, 1) := by decide +kernel
theorem dX0_include_111 : decode cX0_include 111 = .ok (.putfield 36, 3) := by decide +kernel
theorem dX0_include_114 : decode cX0_include 114 = .ok (.return_, 1) := by decide +kernel
theorem dX0_lay_0 : decode cX0_lay 0 = .ok (.aload_n 0, 1) := by decide +kernel
theorem dX0_lay_1 : decode cX0_lay 1 = .ok (.getfield 9, 3) := by decide +kernel
theorem dX0_lay_4 : decode cX0_lay 4 = .ok (.aload_n 0, 1) := by decide +kernel
theorem dX0_lay_5 : decode cX0_lay 5 = .ok (.getfield 21, 3) := by decide +kernel
theorem dX0_lay_8 : decode cX0_lay 8 = .ok (.lmul, 1) := by decide +kernel
theorem dX0_lay_9 : decode cX0_lay 9 = .ok (.aload_n 0, 1) := by decide +kernel
theorem dX0_lay_10 : decode cX0_lay 10 = .ok (.getfield 15, 3) := by decide +kernel
theorem dX0_lay_13 : decode cX0_lay 13 = .ok (.aload_n 0, 1) := by decide +kernel
theorem dX0_lay_14 : decode cX0_lay 14 = .ok (.getfield 15, 3) := by decide +kernel
theorem dX0_lay_17 : decode cX0_lay 17 = .ok (.lmul, 1) := by decide +kernel
theorem dX0_lay_18 : decode cX0_lay 18 = .ok (.lsub, 1) := by decide +kernel
theorem dX0_lay_19 : decode cX0_lay 19 = .ok (.lstore_n 1, 1) := by decide +kernel
theorem dX0_lay_20 : decode cX0_lay 20 = .ok (.aload_n 0, 1) := by decide +kernel
theorem dX0_lay_21 : decode cX0_lay 21 = .ok (.getfield 9, 3) := by decide +kernel
theorem dX0_lay_24 : decode cX0_lay 24 = .ok (.aload_n 0, 1) := by decide +kernel
theorem dX0_lay_25 : decode cX0_lay 25 = .ok (.getfield 24, 3) := by decide +kernel
theorem dX0_lay_28 : decode cX0_lay 28 = .ok (.lmul, 1) := by decide +kernel
theorem dX0_lay_29 : decode cX0_lay 29 = .ok (.aload_n 0, 1) := by decide +kernel
theorem dX0_lay_30 : decode cX0_lay 30 = .ok (.getfield 15, 3) := by decide +kernel
theorem dX0_lay_33 : decode cX0_lay 33 = .ok (.aload_n 0, 1) := by decide +kernel
theorem dX0_lay_34 : decode cX0_lay 34 = .ok (.getfield 18, 3) := by decide +kernel
theorem dX0_lay_37 : decode cX0_lay 37 = .ok (.lmul, 1) := by decide +kernel
theorem dX0_lay_38 : decode cX0_lay 38 = .ok (.lsub, 1) := by decide +kernel
theorem dX0_lay_39 : decode cX0_lay 39 = .ok (.lstore_n 3, 1) := by decide +kernel
theorem dX0_lay_40 : decode cX0_lay 40 = .ok (.aload_n 0, 1) := by decide +kernel
theorem dX0_lay_41 : decode cX0_lay 41 = .ok (.getfield 9, 3) := by decide +kernel
theorem dX0_lay_44 : decode cX0_lay 44 = .ok (.aload_n 0, 1) := by decide +kernel
theorem dX0_lay_45 : decode cX0_lay 45 = .ok (.getfield 27, 3) := by decide +kernel
theorem dX0_lay_48 : decode cX0_lay 48 = .ok (.lmul, 1) := by decide +kernel
theorem dX0_lay_49 : decode cX0_lay 49 = .ok (.aload_n 0, 1) := by decide +kernel
theorem dX0_lay_50 : decode cX0_lay 50 = .ok (.getfield 18, 3) := by decide +kernel
theorem dX0_lay_53 : decode cX0_lay 53 = .ok (.aload_n 0, 1) := by decide +kernel
theorem dX0_lay_54 : decode cX0_lay 54 = .ok (.getfield 18, 3) := by decide +kernel
theorem dX0_lay_57 : decode cX0_lay 57 = .ok (.lmul, 1) := by decide +kernel
theorem dX0_lay_58 : decode cX0_lay 58 = .ok (.lsub, 1) := by decide +kernel
theorem dX0_lay_59 : decode cX0_lay 59 = .ok (.lstore 5, 2) := by decide +kernel
theorem dX0_lay_61 : decode cX0_lay 61 = .ok (.aload_n 0, 1) := by decide +kernel
theorem dX0_lay_62 : decode cX0_lay 62 = .ok (.getfield 9, 3) := by decide +kernel
theorem dX0_lay_65 : decode cX0_lay 65 = .ok (.aload_n 0, 1) := by decide +kernel
theorem dX0_lay_66 : decode cX0_lay 66 = .ok (.getfield 33, 3) := by decide +kernel
theorem dX0_lay_69 : decode cX0_lay 69 = .ok (.lmul, 1) := by decide +kernel
theorem dX0_lay_70 : decode cX0_lay 70 = .ok (.aload_n 0, 1) := by decide +kernel
theorem dX0_lay_71 : decode cX0_lay 71 = .ok (.getfield 15, 3) := by decide +kernel
theorem dX0_lay_74 : decode cX0_lay 74 = .ok (.aload_n 0, 1) := by decide +kernel
theorem dX0_lay_75 : decode cX0_lay 75 = .ok (.getfield 30, 3) := by decide +kernel
theorem dX0_lay_78 : decode cX0_lay 78 = .ok (.lmul, 1) := by decide +kernel
theorem dX0_lay_79 : decode cX0_lay 79 = .ok (.lsub, 1) := by decide +kernel
theorem dX0_lay_80 : decode cX0_lay 80 = .ok (.lstore 7, 2) := by decide +kernel
theorem dX0_lay_82 : decode cX0_lay 82 = .ok (.aload_n 0, 1) := by decide +kernel
theorem dX0_lay_83 : decode cX0_lay 83 = .ok (.getfield 9, 3) := by decide +kernel
theorem dX0_lay_86 : decode cX0_lay 86 = .ok (.aload_n 0, 1) := by decide +kernel
theorem dX0_lay_87 : decode cX0_lay 87 = .ok (.getfield 36, 3) := by decide +kernel
theorem dX0_lay_90 : decode cX0_lay 90 = .ok (.lmul, 1) := by decide +kernel
theorem dX0_lay_91 : decode cX0_lay 91 = .ok (.aload_n 0, 1) := by decide +kernel
theorem dX0_lay_92 : decode cX0_lay 92 = .ok (.getfield 18, 3) := by decide +kernel
theorem dX0_lay_95 : decode cX0_lay 95 = .ok (.aload_n 0, 1) := by decide +kernel
theorem dX0_lay_96 : decode cX0_lay 96 = .ok (.getfield 30, 3) := by decide +kernel
theorem dX0_lay_99 : decode cX0_lay 99 = .ok (.lmul, 1) := by decide +kernel
theorem dX0_lay_100 : decode cX0_lay 100 = .ok (.lsub, 1) := by decide +kernel
theorem dX0_lay_101 : decode cX0_lay 101 = .ok (.lstore 9, 2) := by decide +kernel
theorem dX0_lay_103 : decode cX0_lay 103 = .ok (.aload_n 0, 1) := by decide +kernel
theorem dX0_lay_104 : decode cX0_lay 104 = .ok (.lload_n 1, 1) := by decide +kernel
theorem dX0_lay_105 : decode cX0_lay 105 = .ok (.lload 5, 2) := by decide +kernel
theorem dX0_lay_107 : decode cX0_lay 107 = .ok (.lmul, 1) := by decide +kernel
theorem dX0_lay_108 : decode cX0_lay 108 = .ok (.lload_n 3, 1) := by decide +kernel
theorem dX0_lay_109 : decode cX0_lay 109 = .ok (.lload_n 3, 1) := by decide +kernel
theorem dX0_lay_110 : decode cX0_lay 110 = .ok (.lmul, 1) := by decide +kernel
theorem dX0_lay_111 : decode cX0_lay 111 = .ok (.lsub, 1) := by decide +kernel
theorem dX0_lay_112 : decode cX0_lay 112 = .ok (.putfield 43, 3) := by decide +kernel
theorem dX0_lay_115 : decode cX0_lay 115 = .ok (.aload_n 0, 1) := by decide +kernel
theorem dX0_lay_116 : decode cX0_lay 116 = .ok (.lload 7, 2) := by decide +kernel
theorem dX0_lay_118 : decode cX0_lay 118 = .ok (.lload 5, 2) := by decide +kernel
theorem dX0_lay_120 : decode cX0_lay 120 = .ok (.lmul, 1) := by decide +kernel
theorem dX0_lay_121 : decode cX0_lay 121 = .ok (.lload 9, 2) := by decide +kernel
theorem dX0_lay_123 : decode cX0_lay 123 = .ok (.lload_n 3, 1) := by decide +kernel
theorem dX0_lay_124 : decode cX0_lay 124 = .ok (.lmul, 1) := by decide +kernel
theorem dX0_lay_125 : decode cX0_lay 125 = .ok (.lsub, 1) := by decide +kernel
theorem dX0_lay_126 : decode cX0_lay 126 = .ok (.putfield 46, 3) := by decide +kernel
theorem dX0_lay_129 : decode cX0_lay 129 = .ok (.aload_n 0, 1) := by decide +kernel
theorem dX0_lay_130 : decode cX0_lay 130 = .ok (.lload 9, 2) := by decide +kernel
theorem dX0_lay_132 : decode cX0_lay 132 = .ok (.lload_n 1, 1) := by decide +kernel
theorem dX0_lay_133 : decode cX0_lay 133 = .ok (.lmul, 1) := by decide +kernel
theorem dX0_lay_134 : decode cX0_lay 134 = .ok (.lload 7, 2) := by decide +kernel
theorem dX0_lay_136 : decode cX0_lay 136 = .ok (.lload_n 3, 1) := by decide +kernel
theorem dX0_lay_137 : decode cX0_lay 137 = .ok (.lmul, 1) := by decide +kernel
theorem dX0_lay_138 : decode cX0_lay 138 = .ok (.lsub, 1) := by decide +kernel
theorem dX0_lay_139 : decode cX0_lay 139 = .ok (.putfield 49, 3) := by decide +kernel
theorem dX0_lay_142 : decode cX0_lay 142 = .ok (.aload_n 0, 1) := by decide +kernel
theorem dX0_lay_143 : decode cX0_lay 143 = .ok (.aload_n 0, 1) := by decide +kernel
theorem dX0_lay_144 : decode cX0_lay 144 = .ok (.getfield 30, 3) := by decide +kernel
theorem dX0_lay_147 : decode cX0_lay 147 = .ok (.aload_n 0, 1) := by decide +kernel
theorem dX0_lay_148 : decode cX0_lay 148 = .ok (.getfield 43, 3) := by decide +kernel
theorem dX0_lay_151 : decode cX0_lay 151 = .ok (.lmul, 1) := by decide +kernel
theorem dX0_lay_152 : decode cX0_lay 152 = .ok (.aload_n 0, 1) := by decide +kernel
theorem dX0_lay_153 : decode cX0_lay 153 = .ok (.getfield 46, 3) := by decide +kernel
theorem dX0_lay_156 : decode cX0_lay 156 = .ok (.aload_n 0, 1) := by decide +kernel
theorem dX0_lay_157 : decode cX0_lay 157 = .ok (.getfield 15, 3) := by decide +kernel
theorem dX0_lay_160 : decode cX0_lay 160 = .ok (.lmul, 1) := by decide +kernel
theorem dX0_lay_161 : decode cX0_lay 161 = .ok (.lsub, 1) := by decide +kernel
theorem dX0_lay_162 : decode cX0_lay 162 = .ok (.aload_n 0, 1) := by decide +kernel
theorem dX0_lay_163 : decode cX0_lay 163 = .ok (.getfield 49, 3) := by decide +kernel
theorem dX0_lay_166 : decode cX0_lay 166 = .ok (.aload_n 0, 1) := by decide +kernel
theorem dX0_lay_167 : decode cX0_lay 167 = .ok (.getfield 18, 3) := by decide +kernel
theorem dX0_lay_170 : decode cX0_lay 170 = .ok (.lmul, 1) := by decide +kernel
theorem dX0_lay_171 : decode cX0_lay 171 = .ok (.lsub, 1) := by decide +kernel
theorem dX0_lay_172 : decode cX0_lay 172 = .ok (.putfield 52, 3) := by decide +kernel
theorem dX0_lay_175 : decode cX0_lay 175 = .ok (.return_, 1) := by decide +kernel
theorem dX0_isFlat_0 : decode cX0_isFlat 0 = .ok (.aload_n 0, 1) := by decide +kernel
theorem dX0_isFlat_1 : decode cX0_isFlat 1 = .ok (.getfield 43, 3) := by decide +kernel
theorem dX0_isFlat_4 : decode cX0_isFlat 4 = .ok (.lconst 0, 1) := by decide +kernel
theorem dX0_isFlat_5 : decode cX0_isFlat 5 = .ok (.lcmp, 1) := by decide +kernel
theorem dX0_isFlat_6 : decode cX0_isFlat 6 = .ok (.ifCond .gt 7, 3) := by decide +kernel
theorem dX0_isFlat_9 : decode cX0_isFlat 9 = .ok (.iconst 1, 1) := by decide +kernel
theorem dX0_isFlat_10 : decode cX0_isFlat 10 = .ok (.goto 4, 3) := by decide +kernel
theorem dX0_isFlat_13 : decode cX0_isFlat 13 = .ok (.iconst 0, 1) := by decide +kernel
theorem dX0_isFlat_14 : decode cX0_isFlat 14 = .ok (.ireturn, 1) := by decide +kernel
theorem dX0_fullLower_0 : decode cX0_fullLower 0 = .ok (.aload_n 0, 1) := by decide +kernel
theorem dX0_fullLower_1 : decode cX0_fullLower 1 = .ok (.getfield 9, 3) := by decide +kernel
theorem dX0_fullLower_4 : decode cX0_fullLower 4 = .ok (.aload_n 0, 1) := by decide +kernel
theorem dX0_fullLower_5 : decode cX0_fullLower 5 = .ok (.getfield 43, 3) := by decide +kernel
theorem dX0_fullLower_8 : decode cX0_fullLower 8 = .ok (.lmul, 1) := by decide +kernel
theorem dX0_fullLower_9 : decode cX0_fullLower 9 = .ok (.lreturn, 1) := by decide +kernel
set_option maxRecDepth 20000 in
theorem ggX0_offUpperAt_X2_powerAt : GoodIn wsX0_offUpperAt wsX2_powerAt := goodIn_r _ [8] (by decide +kernel) (by decide +kernel)
set_option maxRecDepth 20000 in
theorem gX0_offUpperAt_X2_powerAt_n39 : GoodIn wsX0_offUpperAt (wsX2_powerAt) := ggX0_offUpperAt_X2_powerAt
theorem dX0_offUpperAt_0 : decode cX0_offUpperAt 0 = .ok (.aload_n 0, 1) := by decide +kernel
theorem dX0_offUpperAt_1 : decode cX0_offUpperAt 1 = .ok (.getfield 9, 3) := by decide +kernel
theorem dX0_offUpperAt_4 : decode cX0_offUpperAt 4 = .ok (.iload_n 1, 1) := by decide +kernel
theorem dX0_offUpperAt_5 : decode cX0_offUpperAt 5 = .ok (.iload_n 2, 1) := by decide +kernel
theorem dX0_offUpperAt_6 : decode cX0_offUpperAt 6 = .ok (.invokestatic 39, 3) := by decide +kernel
theorem dX0_offUpperAt_9 : decode cX0_offUpperAt 9 = .ok (.i2l, 1) := by decide +kernel
theorem dX0_offUpperAt_10 : decode cX0_offUpperAt 10 = .ok (.aload_n 0, 1) := by decide +kernel
theorem dX0_offUpperAt_11 : decode cX0_offUpperAt 11 = .ok (.getfield 43, 3) := by decide +kernel
theorem dX0_offUpperAt_14 : decode cX0_offUpperAt 14 = .ok (.lmul, 1) := by decide +kernel
theorem dX0_offUpperAt_15 : decode cX0_offUpperAt 15 = .ok (.aload_n 0, 1) := by decide +kernel
theorem dX0_offUpperAt_16 : decode cX0_offUpperAt 16 = .ok (.getfield 46, 3) := by decide +kernel
theorem dX0_offUpperAt_19 : decode cX0_offUpperAt 19 = .ok (.iload_n 1, 1) := by decide +kernel
theorem dX0_offUpperAt_20 : decode cX0_offUpperAt 20 = .ok (.i2l, 1) := by decide +kernel
theorem dX0_offUpperAt_21 : decode cX0_offUpperAt 21 = .ok (.lmul, 1) := by decide +kernel
theorem dX0_offUpperAt_22 : decode cX0_offUpperAt 22 = .ok (.lsub, 1) := by decide +kernel
theorem dX0_offUpperAt_23 : decode cX0_offUpperAt 23 = .ok (.aload_n 0, 1) := by decide +kernel
theorem dX0_offUpperAt_24 : decode cX0_offUpperAt 24 = .ok (.getfield 49, 3) := by decide +kernel
theorem dX0_offUpperAt_27 : decode cX0_offUpperAt 27 = .ok (.iload_n 2, 1) := by decide +kernel
theorem dX0_offUpperAt_28 : decode cX0_offUpperAt 28 = .ok (.i2l, 1) := by decide +kernel
theorem dX0_offUpperAt_29 : decode cX0_offUpperAt 29 = .ok (.lmul, 1) := by decide +kernel
theorem dX0_offUpperAt_30 : decode cX0_offUpperAt 30 = .ok (.lsub, 1) := by decide +kernel
theorem dX0_offUpperAt_31 : decode cX0_offUpperAt 31 = .ok (.lmul, 1) := by decide +kernel
theorem dX0_offUpperAt_32 : decode cX0_offUpperAt 32 = .ok (.aload_n 0, 1) := by decide +kernel
theorem dX0_offUpperAt_33 : decode cX0_offUpperAt 33 = .ok (.getfield 52, 3) := by decide +kernel
theorem dX0_offUpperAt_36 : decode cX0_offUpperAt 36 = .ok (.lsub, 1) := by decide +kernel
theorem dX0_offUpperAt_37 : decode cX0_offUpperAt 37 = .ok (.lreturn, 1) := by decide +kernel
set_option maxRecDepth 20000 in
theorem ggX0_eighthAt_X0_eighthTowards : GoodIn wsX0_eighthAt wsX0_eighthTowards := goodIn_r _ [8] (by decide +kernel) (by decide +kernel)
set_option maxRecDepth 20000 in
theorem gX0_eighthAt_X0_eighthTowards : GoodIn wsX0_eighthAt (va_wsS RX0 57 yX0_eighthTowards wsX0_eighthTowards) := goodIn_app (goodIn_of _ (by decide +kernel)) ggX0_eighthAt_X0_eighthTowards
theorem dX0_eighthAt_0 : decode cX0_eighthAt 0 = .ok (.ldc2_w 55, 3) := by decide +kernel
theorem dX0_eighthAt_3 : decode cX0_eighthAt 3 = .ok (.aload_n 0, 1) := by decide +kernel
theorem dX0_eighthAt_4 : decode cX0_eighthAt 4 = .ok (.getfield 43, 3) := by decide +kernel
theorem dX0_eighthAt_7 : decode cX0_eighthAt 7 = .ok (.lmul, 1) := by decide +kernel
theorem dX0_eighthAt_8 : decode cX0_eighthAt 8 = .ok (.iload_n 1, 1) := by decide +kernel
theorem dX0_eighthAt_9 : decode cX0_eighthAt 9 = .ok (.i2l, 1) := by decide +kernel
theorem dX0_eighthAt_10 : decode cX0_eighthAt 10 = .ok (.lmul, 1) := by decide +kernel
theorem dX0_eighthAt_11 : decode cX0_eighthAt 11 = .ok (.aload_n 0, 1) := by decide +kernel
theorem dX0_eighthAt_12 : decode cX0_eighthAt 12 = .ok (.getfield 46, 3) := by decide +kernel
theorem dX0_eighthAt_15 : decode cX0_eighthAt 15 = .ok (.lsub, 1) := by decide +kernel
theorem dX0_eighthAt_16 : decode cX0_eighthAt 16 = .ok (.ldc2_w 55, 3) := by decide +kernel
theorem dX0_eighthAt_19 : decode cX0_eighthAt 19 = .ok (.aload_n 0, 1) := by decide +kernel
theorem dX0_eighthAt_20 : decode cX0_eighthAt 20 = .ok (.getfield 43, 3) := by decide +kernel
theorem dX0_eighthAt_23 : decode cX0_eighthAt 23 = .ok (.lmul, 1) := by decide +kernel
theorem dX0_eighthAt_24 : decode cX0_eighthAt 24 = .ok (.iload_n 2, 1) := by decide +kernel
theorem dX0_eighthAt_25 : decode cX0_eighthAt 25 = .ok (.i2l, 1) := by decide +kernel
theorem dX0_eighthAt_26 : decode cX0_eighthAt 26 = .ok (.lmul, 1) := by decide +kernel
theorem dX0_eighthAt_27 : decode cX0_eighthAt 27 = .ok (.aload_n 0, 1) := by decide +kernel
theorem dX0_eighthAt_28 : decode cX0_eighthAt 28 = .ok (.getfield 49, 3) := by decide +kernel
theorem dX0_eighthAt_31 : decode cX0_eighthAt 31 = .ok (.lsub, 1) := by decide +kernel
theorem dX0_eighthAt_32 : decode cX0_eighthAt 32 = .ok (.invokestatic 57, 3) := by decide +kernel
theorem dX0_eighthAt_35 : decode cX0_eighthAt 35 = .ok (.ireturn, 1) := by decide +kernel
theorem dX0_eighthTowards_0 : decode cX0_eighthTowards 0 = .ok (.lload_n 2, 1) := by decide +kernel
theorem dX0_eighthTowards_1 : decode cX0_eighthTowards 1 = .ok (.lconst 0, 1) := by decide +kernel
theorem dX0_eighthTowards_2 : decode cX0_eighthTowards 2 = .ok (.lcmp, 1) := by decide +kernel
theorem dX0_eighthTowards_3 : decode cX0_eighthTowards 3 = .ok (.ifCond .lt 11, 3) := by decide +kernel
theorem dX0_eighthTowards_6 : decode cX0_eighthTowards 6 = .ok (.lload_n 0, 1) := by decide +kernel
theorem dX0_eighthTowards_7 : decode cX0_eighthTowards 7 = .ok (.lload_n 2, 1) := by decide +kernel
theorem dX0_eighthTowards_8 : decode cX0_eighthTowards 8 = .ok (.lcmp, 1) := by decide +kernel
theorem dX0_eighthTowards_9 : decode cX0_eighthTowards 9 = .ok (.ifCond .le 5, 3) := by decide +kernel
theorem dX0_eighthTowards_12 : decode cX0_eighthTowards 12 = .ok (.iconst 0, 1) := by decide +kernel
theorem dX0_eighthTowards_13 : decode cX0_eighthTowards 13 = .ok (.ireturn, 1) := by decide +kernel
theorem dX0_eighthTowards_14 : decode cX0_eighthTowards 14 = .ok (.lload_n 0, 1) := by decide +kernel
theorem dX0_eighthTowards_15 : decode cX0_eighthTowards 15 = .ok (.lconst 0, 1) := by decide +kernel
theorem dX0_eighthTowards_16 : decode cX0_eighthTowards 16 = .ok (.lcmp, 1) := by decide +kernel
theorem dX0_eighthTowards_17 : decode cX0_eighthTowards 17 = .ok (.ifCond .le 11, 3) := by decide +kernel
theorem dX0_eighthTowards_20 : decode cX0_eighthTowards 20 = .ok (.lload_n 2, 1) := by decide +kernel
theorem dX0_eighthTowards_21 : decode cX0_eighthTowards 21 = .ok (.lload_n 0, 1) := by decide +kernel
theorem dX0_eighthTowards_22 : decode cX0_eighthTowards 22 = .ok (.lcmp, 1) := by decide +kernel
theorem dX0_eighthTowards_23 : decode cX0_eighthTowards 23 = .ok (.ifCond .lt 5, 3) := by decide +kernel
theorem dX0_eighthTowards_26 : decode cX0_eighthTowards 26 = .ok (.iconst 1, 1) := by decide +kernel
theorem dX0_eighthTowards_27 : decode cX0_eighthTowards 27 = .ok (.ireturn, 1) := by decide +kernel
theorem dX0_eighthTowards_28 : decode cX0_eighthTowards 28 = .ok (.lload_n 0, 1) := by decide +kernel
theorem dX0_eighthTowards_29 : decode cX0_eighthTowards 29 = .ok (.lconst 0, 1) := by decide +kernel
theorem dX0_eighthTowards_30 : decode cX0_eighthTowards 30 = .ok (.lcmp, 1) := by decide +kernel
theorem dX0_eighthTowards_31 : decode cX0_eighthTowards 31 = .ok (.ifCond .gt 12, 3) := by decide +kernel
theorem dX0_eighthTowards_34 : decode cX0_eighthTowards 34 = .ok (.lload_n 2, 1) := by decide +kernel
theorem dX0_eighthTowards_35 : decode cX0_eighthTowards 35 = .ok (.lload_n 0, 1) := by decide +kernel
theorem dX0_eighthTowards_36 : decode cX0_eighthTowards 36 = .ok (.lneg, 1) := by decide +kernel
theorem dX0_eighthTowards_37 : decode cX0_eighthTowards 37 = .ok (.lcmp, 1) := by decide +kernel
theorem dX0_eighthTowards_38 : decode cX0_eighthTowards 38 = .ok (.ifCond .le 5, 3) := by decide +kernel
theorem dX0_eighthTowards_41 : decode cX0_eighthTowards 41 = .ok (.iconst 2, 1) := by decide +kernel
theorem dX0_eighthTowards_42 : decode cX0_eighthTowards 42 = .ok (.ireturn, 1) := by decide +kernel
theorem dX0_eighthTowards_43 : decode cX0_eighthTowards 43 = .ok (.lload_n 2, 1) := by decide +kernel
theorem dX0_eighthTowards_44 : decode cX0_eighthTowards 44 = .ok (.lconst 0, 1) := by decide +kernel
theorem dX0_eighthTowards_45 : decode cX0_eighthTowards 45 = .ok (.lcmp, 1) := by decide +kernel
theorem dX0_eighthTowards_46 : decode cX0_eighthTowards 46 = .ok (.ifCond .le 12, 3) := by decide +kernel
theorem dX0_eighthTowards_49 : decode cX0_eighthTowards 49 = .ok (.lload_n 0, 1) := by decide +kernel
theorem dX0_eighthTowards_50 : decode cX0_eighthTowards 50 = .ok (.lneg, 1) := by decide +kernel
theorem dX0_eighthTowards_51 : decode cX0_eighthTowards 51 = .ok (.lload_n 2, 1) := by decide +kernel
theorem dX0_eighthTowards_52 : decode cX0_eighthTowards 52 = .ok (.lcmp, 1) := by decide +kernel
theorem dX0_eighthTowards_53 : decode cX0_eighthTowards 53 = .ok (.ifCond .lt 5, 3) := by decide +kernel
theorem dX0_eighthTowards_56 : decode cX0_eighthTowards 56 = .ok (.iconst 3, 1) := by decide +kernel
theorem dX0_eighthTowards_57 : decode cX0_eighthTowards 57 = .ok (.ireturn, 1) := by decide +kernel
theorem dX0_eighthTowards_58 : decode cX0_eighthTowards 58 = .ok (.lload_n 2, 1) := by decide +kernel
theorem dX0_eighthTowards_59 : decode cX0_eighthTowards 59 = .ok (.lconst 0, 1) := by decide +kernel
theorem dX0_eighthTowards_60 : decode cX0_eighthTowards 60 = .ok (.lcmp, 1) := by decide +kernel
theorem dX0_eighthTowards_61 : decode cX0_eighthTowards 61 = .ok (.ifCond .gt 13, 3) := by decide +kernel
theorem dX0_eighthTowards_64 : decode cX0_eighthTowards 64 = .ok (.lload_n 0, 1) := by decide +kernel
theorem dX0_eighthTowards_65 : decode cX0_eighthTowards 65 = .ok (.lneg, 1) := by decide +kernel
theorem dX0_eighthTowards_66 : decode cX0_eighthTowards 66 = .ok (.lload_n 2, 1) := by decide +kernel
theorem dX0_eighthTowards_67 : decode cX0_eighthTowards 67 = .ok (.lneg, 1) := by decide +kernel
theorem dX0_eighthTowards_68 : decode cX0_eighthTowards 68 = .ok (.lcmp, 1) := by decide +kernel
theorem dX0_eighthTowards_69 : decode cX0_eighthTowards 69 = .ok (.ifCond .le 5, 3) := by decide +kernel
theorem dX0_eighthTowards_72 : decode cX0_eighthTowards 72 = .ok (.iconst 4, 1) := by decide +kernel
theorem dX0_eighthTowards_73 : decode cX0_eighthTowards 73 = .ok (.ireturn, 1) := by decide +kernel
theorem dX0_eighthTowards_74 : decode cX0_eighthTowards 74 = .ok (.lload_n 0, 1) := by decide +kernel
theorem dX0_eighthTowards_75 : decode cX0_eighthTowards 75 = .ok (.lconst 0, 1) := by decide +kernel
theorem dX0_eighthTowards_76 : decode cX0_eighthTowards 76 = .ok (.lcmp, 1) := by decide +kernel
theorem dX0_eighthTowards_77 : decode cX0_eighthTowards 77 = .ok (.ifCond .ge 13, 3) := by decide +kernel
theorem dX0_eighthTowards_80 : decode cX0_eighthTowards 80 = .ok (.lload_n 2, 1) := by decide +kernel
theorem dX0_eighthTowards_81 : decode cX0_eighthTowards 81 = .ok (.lneg, 1) := by decide +kernel
theorem dX0_eighthTowards_82 : decode cX0_eighthTowards 82 = .ok (.lload_n 0, 1) := by decide +kernel
theorem dX0_eighthTowards_83 : decode cX0_eighthTowards 83 = .ok (.lneg, 1) := by decide +kernel
theorem dX0_eighthTowards_84 : decode cX0_eighthTowards 84 = .ok (.lcmp, 1) := by decide +kernel
theorem dX0_eighthTowards_85 : decode cX0_eighthTowards 85 = .ok (.ifCond .lt 5, 3) := by decide +kernel
theorem dX0_eighthTowards_88 : decode cX0_eighthTowards 88 = .ok (.iconst 5, 1) := by decide +kernel
theorem dX0_eighthTowards_89 : decode cX0_eighthTowards 89 = .ok (.ireturn, 1) := by decide +kernel
theorem dX0_eighthTowards_90 : decode cX0_eighthTowards 90 = .ok (.lload_n 0, 1) := by decide +kernel
theorem dX0_eighthTowards_91 : decode cX0_eighthTowards 91 = .ok (.lconst 0, 1) := by decide +kernel
theorem dX0_eighthTowards_92 : decode cX0_eighthTowards 92 = .ok (.lcmp, 1) := by decide +kernel
theorem dX0_eighthTowards_93 : decode cX0_eighthTowards 93 = .ok (.ifCond .lt 13, 3) := by decide +kernel
theorem dX0_eighthTowards_96 : decode cX0_eighthTowards 96 = .ok (.lload_n 2, 1) := by decide +kernel
theorem dX0_eighthTowards_97 : decode cX0_eighthTowards 97 = .ok (.lneg, 1) := by decide +kernel
theorem dX0_eighthTowards_98 : decode cX0_eighthTowards 98 = .ok (.lload_n 0, 1) := by decide +kernel
theorem dX0_eighthTowards_99 : decode cX0_eighthTowards 99 = .ok (.lcmp, 1) := by decide +kernel
theorem dX0_eighthTowards_100 : decode cX0_eighthTowards 100 = .ok (.ifCond .le 6, 3) := by decide +kernel
theorem dX0_eighthTowards_103 : decode cX0_eighthTowards 103 = .ok (.bipush 6, 2) := by decide +kernel
theorem dX0_eighthTowards_105 : decode cX0_eighthTowards 105 = .ok (.ireturn, 1) := by decide +kernel
theorem dX0_eighthTowards_106 : decode cX0_eighthTowards 106 = .ok (.lload_n 2, 1) := by decide +kernel
theorem dX0_eighthTowards_107 : decode cX0_eighthTowards 107 = .ok (.lconst 0, 1) := by decide +kernel
theorem dX0_eighthTowards_108 : decode cX0_eighthTowards 108 = .ok (.lcmp, 1) := by decide +kernel
theorem dX0_eighthTowards_109 : decode cX0_eighthTowards 109 = .ok (.ifCond .ge 13, 3) := by decide +kernel
theorem dX0_eighthTowards_112 : decode cX0_eighthTowards 112 = .ok (.lload_n 0, 1) := by decide +kernel
theorem dX0_eighthTowards_113 : decode cX0_eighthTowards 113 = .ok (.lload_n 2, 1) := by decide +kernel
theorem dX0_eighthTowards_114 : decode cX0_eighthTowards 114 = .ok (.lneg, 1) := by decide +kernel
theorem dX0_eighthTowards_115 : decode cX0_eighthTowards 115 = .ok (.lcmp, 1) := by decide +kernel
theorem dX0_eighthTowards_116 : decode cX0_eighthTowards 116 = .ok (.ifCond .lt 6, 3) := by decide +kernel
theorem dX0_eighthTowards_119 : decode cX0_eighthTowards 119 = .ok (.bipush 7, 2) := by decide +kernel
theorem dX0_eighthTowards_121 : decode cX0_eighthTowards 121 = .ok (.ireturn, 1) := by decide +kernel
theorem dX0_eighthTowards_122 : decode cX0_eighthTowards 122 = .ok (.bipush (-6), 2) := by decide +kernel
theorem dX0_eighthTowards_124 : decode cX0_eighthTowards 124 = .ok (.ireturn, 1) := by decide +kernel
theorem dX1_init_0 : decode cX1_init 0 = .ok (.aload_n 0, 1) := by decide +kernel
theorem dX1_init_1 : decode cX1_init 1 = .ok (.invokespecial 3, 3) := by decide +kernel
theorem dX1_init_4 : decode cX1_init 4 = .ok (.aload_n 0, 1) := by decide +kernel
theorem dX1_init_5 : decode cX1_init 5 = .ok (.bipush 10, 2) := by decide +kernel
theorem dX1_init_7 : decode cX1_init 7 = .ok (.newarray .int, 2) := by decide +kernel
theorem dX1_init_9 : decode cX1_init 9 = .ok (.putfield 9, 3) := by decide +kernel
theorem dX1_init_12 : decode cX1_init 12 = .ok (.aload_n 0, 1) := by decide +kernel
theorem dX1_init_13 : decode cX1_init 13 = .ok (.bipush 10, 2) := by decide +kernel
theorem dX1_init_15 : decode cX1_init 15 = .ok (.newarray .int, 2) := by decide +kernel
theorem dX1_init_17 : decode cX1_init 17 = .ok (.putfield 15, 3) := by decide +kernel
theorem dX1_init_20 : decode cX1_init 20 = .ok (.aload_n 0, 1) := by decide +kernel
theorem dX1_init_21 : decode cX1_init 21 = .ok (.iconst 0, 1) := by decide +kernel
theorem dX1_init_22 : decode cX1_init 22 = .ok (.putfield 18, 3) := by decide +kernel
theorem dX1_init_25 : decode cX1_init 25 = .ok (.aload_n 0, 1) := by decide +kernel
theorem dX1_init_26 : decode cX1_init 26 = .ok (.iconst 0, 1) := by decide +kernel
theorem dX1_init_27 : decode cX1_init 27 = .ok (.putfield 22, 3) := by decide +kernel
theorem dX1_init_30 : decode cX1_init 30 = .ok (.aload_n 0, 1) := by decide +kernel
theorem dX1_init_31 : decode cX1_init 31 = .ok (.iconst 5, 1) := by decide +kernel
theorem dX1_init_32 : decode cX1_init 32 = .ok (.putfield 25, 3) := by decide +kernel
theorem dX1_init_35 : decode cX1_init 35 = .ok (.return_, 1) := by decide +kernel
theorem dX1_become_0 : decode cX1_become 0 = .ok (.iconst 0, 1) := by decide +kernel
theorem dX1_become_1 : decode cX1_become 1 = .ok (.istore_n 2, 1) := by decide +kernel
theorem dX1_become_2 : decode cX1_become 2 = .ok (.iload_n 2, 1) := by decide +kernel
theorem dX1_become_3 : decode cX1_become 3 = .ok (.bipush 10, 2) := by decide +kernel
theorem dX1_become_5 : decode cX1_become 5 = .ok (.if_icmp .ge 33, 3) := by decide +kernel
theorem dX1_become_8 : decode cX1_become 8 = .ok (.aload_n 0, 1) := by decide +kernel
theorem dX1_become_9 : decode cX1_become 9 = .ok (.getfield 9, 3) := by decide +kernel
theorem dX1_become_12 : decode cX1_become 12 = .ok (.iload_n 2, 1) := by decide +kernel
theorem dX1_become_13 : decode cX1_become 13 = .ok (.aload_n 1, 1) := by decide +kernel
theorem dX1_become_14 : decode cX1_become 14 = .ok (.getfield 9, 3) := by decide +kernel
theorem dX1_become_17 : decode cX1_become 17 = .ok (.iload_n 2, 1) := by decide +kernel
theorem dX1_become_18 : decode cX1_become 18 = .ok (.iaload, 1) := by decide +kernel
theorem dX1_become_19 : decode cX1_become 19 = .ok (.iastore, 1) := by decide +kernel
theorem dX1_become_20 : decode cX1_become 20 = .ok (.aload_n 0, 1) := by decide +kernel
theorem dX1_become_21 : decode cX1_become 21 = .ok (.getfield 15, 3) := by decide +kernel
theorem dX1_become_24 : decode cX1_become 24 = .ok (.iload_n 2, 1) := by decide +kernel
theorem dX1_become_25 : decode cX1_become 25 = .ok (.aload_n 1, 1) := by decide +kernel
theorem dX1_become_26 : decode cX1_become 26 = .ok (.getfield 15, 3) := by decide +kernel
theorem dX1_become_29 : decode cX1_become 29 = .ok (.iload_n 2, 1) := by decide +kernel
theorem dX1_become_30 : decode cX1_become 30 = .ok (.iaload, 1) := by decide +kernel
theorem dX1_become_31 : decode cX1_become 31 = .ok (.iastore, 1) := by decide +kernel
theorem dX1_become_32 : decode cX1_become 32 = .ok (.iinc 2 1, 3) := by decide +kernel
theorem dX1_become_35 : decode cX1_become 35 = .ok (.goto (-33), 3) := by decide +kernel
theorem dX1_become_38 : decode cX1_become 38 = .ok (.aload_n 0, 1) := by decide +kernel
theorem dX1_become_39 : decode cX1_become 39 = .ok (.aload_n 1, 1) := by decide +kernel
theorem dX1_become_40 : decode cX1_become 40 = .ok (.getfield 18, 3) := by decide +kernel
theorem dX1_become_43 : decode cX1_become 43 = .ok (.putfield 18, 3) := by decide +kernel
theorem dX1_become_46 : decode cX1_become 46 = .ok (.aload_n 0, 1) := by decide +kernel
theorem dX1_become_47 : decode cX1_become 47 = .ok (.aload_n 1, 1) := by decide +kernel
theorem dX1_become_48 : decode cX1_become 48 = .ok (.getfield 22, 3) := by decide +kernel
theorem dX1_become_51 : decode cX1_become 51 = .ok (.putfield 22, 3) := by decide +kernel
theorem dX1_become_54 : decode cX1_become 54 = .ok (.aload_n 0, 1) := by decide +kernel
theorem dX1_become_55 : decode cX1_become 55 = .ok (.aload_n 1, 1) := by decide +kernel
theorem dX1_become_56 : decode cX1_become 56 = .ok (.getfield 25, 3) := by decide +kernel
theorem dX1_become_59 : decode cX1_become 59 = .ok (.putfield 25, 3) := by decide +kernel
theorem dX1_become_62 : decode cX1_become 62 = .ok (.return_, 1) := by decide +kernel
set_option maxRecDepth 20000 in
theorem ggX2_init_X1_init : GoodIn wsX2_init wsX1_init := goodIn_r _ [18, 19, 2, 3, 20, 21, 22, 23, 24, 25, 29, 30, 31, 32, 33] (by decide +kernel) (by decide +kernel)
set_option maxRecDepth 20000 in
theorem gX2_init_X1_init : GoodIn wsX2_init (wsX1_init) := ggX2_init_X1_init
set_option maxRecDepth 20000 in
theorem ggX2_init_X0_init : GoodIn wsX2_init wsX0_init := goodIn_r _ [27, 28, 2, 3] (by decide +kernel) (by decide +kernel)
set_option maxRecDepth 20000 in
theorem gX2_init_X0_init_n28 : GoodIn wsX2_init (wsX0_init) := ggX2_init_X0_init
theorem dX2_init_0 : decode cX2_init 0 = .ok (.aload_n 0, 1) := by decide +kernel
theorem dX2_init_1 : decode cX2_init 1 = .ok (.invokespecial 3, 3) := by decide +kernel
theorem dX2_init_4 : decode cX2_init 4 = .ok (.aload_n 0, 1) := by decide +kernel
theorem dX2_init_5 : decode cX2_init 5 = .ok (.new 9, 3) := by decide +kernel
theorem dX2_init_8 : decode cX2_init 8 = .ok (.dup, 1) := by decide +kernel
theorem dX2_init_9 : decode cX2_init 9 = .ok (.invokespecial 11, 3) := by decide +kernel
theorem dX2_init_12 : decode cX2_init 12 = .ok (.putfield 12, 3) := by decide +kernel
theorem dX2_init_15 : decode cX2_init 15 = .ok (.aload_n 0, 1) := by decide +kernel
theorem dX2_init_16 : decode cX2_init 16 = .ok (.new 9, 3) := by decide +kernel
theorem dX2_init_19 : decode cX2_init 19 = .ok (.dup, 1) := by decide +kernel
theorem dX2_init_20 : decode cX2_init 20 = .ok (.invokespecial 11, 3) := by decide +kernel
theorem dX2_init_23 : decode cX2_init 23 = .ok (.putfield 16, 3) := by decide +kernel
theorem dX2_init_26 : decode cX2_init 26 = .ok (.aload_n 0, 1) := by decide +kernel
theorem dX2_init_27 : decode cX2_init 27 = .ok (.new 9, 3) := by decide +kernel
theorem dX2_init_30 : decode cX2_init 30 = .ok (.dup, 1) := by decide +kernel
theorem dX2_init_31 : decode cX2_init 31 = .ok (.invokespecial 11, 3) := by decide +kernel
theorem dX2_init_34 : decode cX2_init 34 = .ok (.putfield 19, 3) := by decide +kernel
theorem dX2_init_37 : decode cX2_init 37 = .ok (.aload_n 0, 1) := by decide +kernel
theorem dX2_init_38 : decode cX2_init 38 = .ok (.iconst 0, 1) := by decide +kernel
theorem dX2_init_39 : decode cX2_init 39 = .ok (.putfield 22, 3) := by decide +kernel
theorem dX2_init_42 : decode cX2_init 42 = .ok (.aload_n 0, 1) := by decide +kernel
theorem dX2_init_43 : decode cX2_init 43 = .ok (.new 26, 3) := by decide +kernel
theorem dX2_init_46 : decode cX2_init 46 = .ok (.dup, 1) := by decide +kernel
theorem dX2_init_47 : decode cX2_init 47 = .ok (.invokespecial 28, 3) := by decide +kernel
theorem dX2_init_50 : decode cX2_init 50 = .ok (.putfield 29, 3) := by decide +kernel
theorem dX2_init_53 : decode cX2_init 53 = .ok (.aload_n 0, 1) := by decide +kernel
theorem dX2_init_54 : decode cX2_init 54 = .ok (.new 26, 3) := by decide +kernel
theorem dX2_init_57 : decode cX2_init 57 = .ok (.dup, 1) := by decide +kernel
theorem dX2_init_58 : decode cX2_init 58 = .ok (.invokespecial 28, 3) := by decide +kernel
theorem dX2_init_61 : decode cX2_init 61 = .ok (.putfield 33, 3) := by decide +kernel
theorem dX2_init_64 : decode cX2_init 64 = .ok (.return_, 1) := by decide +kernel
set_option maxRecDepth 20000 in
theorem ggX2_add_X2_isPlace : GoodIn wsX2_add wsX2_isPlace := goodIn_r _ [9, 10, 11, 8, 12] (by decide +kernel) (by decide +kernel)
set_option maxRecDepth 20000 in
theorem gX2_add_X2_isPlace : GoodIn wsX2_add (va_wsS RX2 36 yX2_isPlace wsX2_isPlace) := goodIn_app (goodIn_of _ (by decide +kernel)) ggX2_add_X2_isPlace
theorem dX2_add_0 : decode cX2_add 0 = .ok (.iload_n 1, 1) := by decide +kernel
theorem dX2_add_1 : decode cX2_add 1 = .ok (.iload_n 2, 1) := by decide +kernel
theorem dX2_add_2 : decode cX2_add 2 = .ok (.invokestatic 36, 3) := by decide +kernel
theorem dX2_add_5 : decode cX2_add 5 = .ok (.ifCond .ne 6, 3) := by decide +kernel
theorem dX2_add_8 : decode cX2_add 8 = .ok (.bipush (-2), 2) := by decide +kernel
theorem dX2_add_10 : decode cX2_add 10 = .ok (.ireturn, 1) := by decide +kernel
theorem dX2_add_11 : decode cX2_add 11 = .ok (.aload_n 0, 1) := by decide +kernel
theorem dX2_add_12 : decode cX2_add 12 = .ok (.getfield 12, 3) := by decide +kernel
theorem dX2_add_15 : decode cX2_add 15 = .ok (.getfield 40, 3) := by decide +kernel
theorem dX2_add_18 : decode cX2_add 18 = .ok (.istore_n 3, 1) := by decide +kernel
theorem dX2_add_19 : decode cX2_add 19 = .ok (.iload_n 3, 1) := by decide +kernel
theorem dX2_add_20 : decode cX2_add 20 = .ok (.ifCond .lt 9, 3) := by decide +kernel
theorem dX2_add_23 : decode cX2_add 23 = .ok (.iload_n 3, 1) := by decide +kernel
theorem dX2_add_24 : decode cX2_add 24 = .ok (.bipush 10, 2) := by decide +kernel
theorem dX2_add_26 : decode cX2_add 26 = .ok (.if_icmp .lt 6, 3) := by decide +kernel
theorem dX2_add_29 : decode cX2_add 29 = .ok (.bipush (-4), 2) := by decide +kernel
theorem dX2_add_31 : decode cX2_add 31 = .ok (.ireturn, 1) := by decide +kernel
theorem dX2_add_32 : decode cX2_add 32 = .ok (.aload_n 0, 1) := by decide +kernel
theorem dX2_add_33 : decode cX2_add 33 = .ok (.getfield 12, 3) := by decide +kernel
theorem dX2_add_36 : decode cX2_add 36 = .ok (.getfield 43, 3) := by decide +kernel
theorem dX2_add_39 : decode cX2_add 39 = .ok (.iload_n 3, 1) := by decide +kernel
theorem dX2_add_40 : decode cX2_add 40 = .ok (.iload_n 1, 1) := by decide +kernel
theorem dX2_add_41 : decode cX2_add 41 = .ok (.iastore, 1) := by decide +kernel
theorem dX2_add_42 : decode cX2_add 42 = .ok (.aload_n 0, 1) := by decide +kernel
theorem dX2_add_43 : decode cX2_add 43 = .ok (.getfield 12, 3) := by decide +kernel
theorem dX2_add_46 : decode cX2_add 46 = .ok (.getfield 47, 3) := by decide +kernel
theorem dX2_add_49 : decode cX2_add 49 = .ok (.iload_n 3, 1) := by decide +kernel
theorem dX2_add_50 : decode cX2_add 50 = .ok (.iload_n 2, 1) := by decide +kernel
theorem dX2_add_51 : decode cX2_add 51 = .ok (.iastore, 1) := by decide +kernel
theorem dX2_add_52 : decode cX2_add 52 = .ok (.aload_n 0, 1) := by decide +kernel
theorem dX2_add_53 : decode cX2_add 53 = .ok (.getfield 12, 3) := by decide +kernel
theorem dX2_add_56 : decode cX2_add 56 = .ok (.dup, 1) := by decide +kernel
theorem dX2_add_57 : decode cX2_add 57 = .ok (.getfield 50, 3) := by decide +kernel
theorem dX2_add_60 : decode cX2_add 60 = .ok (.iconst 1, 1) := by decide +kernel
theorem dX2_add_61 : decode cX2_add 61 = .ok (.iload_n 3, 1) := by decide +kernel
theorem dX2_add_62 : decode cX2_add 62 = .ok (.ishl, 1) := by decide +kernel
theorem dX2_add_63 : decode cX2_add 63 = .ok (.ior, 1) := by decide +kernel
theorem dX2_add_64 : decode cX2_add 64 = .ok (.putfield 50, 3) := by decide +kernel
theorem dX2_add_67 : decode cX2_add 67 = .ok (.aload_n 0, 1) := by decide +kernel
theorem dX2_add_68 : decode cX2_add 68 = .ok (.getfield 12, 3) := by decide +kernel
theorem dX2_add_71 : decode cX2_add 71 = .ok (.iload_n 3, 1) := by decide +kernel
theorem dX2_add_72 : decode cX2_add 72 = .ok (.iconst 1, 1) := by decide +kernel
theorem dX2_add_73 : decode cX2_add 73 = .ok (.iadd, 1) := by decide +kernel
theorem dX2_add_74 : decode cX2_add 74 = .ok (.putfield 40, 3) := by decide +kernel
theorem dX2_add_77 : decode cX2_add 77 = .ok (.iload_n 3, 1) := by decide +kernel
theorem dX2_add_78 : decode cX2_add 78 = .ok (.ireturn, 1) := by decide +kernel
theorem dX2_clear_0 : decode cX2_clear 0 = .ok (.aload_n 0, 1) := by decide +kernel
theorem dX2_clear_1 : decode cX2_clear 1 = .ok (.getfield 12, 3) := by decide +kernel
theorem dX2_clear_4 : decode cX2_clear 4 = .ok (.getfield 40, 3) := by decide +kernel
theorem dX2_clear_7 : decode cX2_clear 7 = .ok (.istore_n 1, 1) := by decide +kernel
theorem dX2_clear_8 : decode cX2_clear 8 = .ok (.aload_n 0, 1) := by decide +kernel
theorem dX2_clear_9 : decode cX2_clear 9 = .ok (.getfield 12, 3) := by decide +kernel
theorem dX2_clear_12 : decode cX2_clear 12 = .ok (.iconst 0, 1) := by decide +kernel
theorem dX2_clear_13 : decode cX2_clear 13 = .ok (.putfield 40, 3) := by decide +kernel
theorem dX2_clear_16 : decode cX2_clear 16 = .ok (.aload_n 0, 1) := by decide +kernel
theorem dX2_clear_17 : decode cX2_clear 17 = .ok (.getfield 12, 3) := by decide +kernel
theorem dX2_clear_20 : decode cX2_clear 20 = .ok (.iconst 0, 1) := by decide +kernel
theorem dX2_clear_21 : decode cX2_clear 21 = .ok (.putfield 50, 3) := by decide +kernel
theorem dX2_clear_24 : decode cX2_clear 24 = .ok (.iload_n 1, 1) := by decide +kernel
theorem dX2_clear_25 : decode cX2_clear 25 = .ok (.ireturn, 1) := by decide +kernel
set_option maxRecDepth 20000 in
theorem ggX2_take_X2_isSample : GoodIn wsX2_take wsX2_isSample := goodIn_r _ [7, 1, 8, 19, 20, 21, 22, 23, 24, 25, 26, 27, 28, 29] (by decide +kernel) (by decide +kernel)
set_option maxRecDepth 20000 in
theorem gX2_take_X2_isSample : GoodIn wsX2_take (wsV RX2 53 RX2 yX2_isSample wsX2_isSample) := goodIn_app (goodIn_of _ (by decide +kernel)) ggX2_take_X2_isSample
set_option maxRecDepth 20000 in
theorem ggX2_take_X2_isBetween : GoodIn wsX2_take wsX2_isBetween := goodIn_r _ [11] (by decide +kernel) (by decide +kernel)
set_option maxRecDepth 20000 in
theorem gX2_take_X2_isBetween : GoodIn wsX2_take (va_wsS RX2 57 yX2_isBetween wsX2_isBetween) := goodIn_app (goodIn_of _ (by decide +kernel)) ggX2_take_X2_isBetween
set_option maxRecDepth 20000 in
theorem ggX2_take_J6_bitCount_0f7a4 : GoodIn wsX2_take wsJ6_bitCount_0f7a4 := goodIn_r _ [15, 16, 17, 18] (by decide +kernel) (by decide +kernel)
set_option maxRecDepth 20000 in
theorem gX2_take_J6_bitCount_0f7a4 : GoodIn wsX2_take (va_wsS RX2 61 yJ6_bitCount_0f7a4 wsJ6_bitCount_0f7a4) := goodIn_app (goodIn_of _ (by decide +kernel)) ggX2_take_J6_bitCount_0f7a4
theorem dX2_take_0 : decode cX2_take 0 = .ok (.aload_n 0, 1) := by decide +kernel
theorem dX2_take_1 : decode cX2_take 1 = .ok (.iload_n 1, 1) := by decide +kernel
theorem dX2_take_2 : decode cX2_take 2 = .ok (.invokevirtual 53, 3) := by decide +kernel
theorem dX2_take_5 : decode cX2_take 5 = .ok (.ifCond .ne 5, 3) := by decide +kernel
theorem dX2_take_8 : decode cX2_take 8 = .ok (.iconst (-1), 1) := by decide +kernel
theorem dX2_take_9 : decode cX2_take 9 = .ok (.ireturn, 1) := by decide +kernel
theorem dX2_take_10 : decode cX2_take 10 = .ok (.iload_n 2, 1) := by decide +kernel
theorem dX2_take_11 : decode cX2_take 11 = .ok (.iconst 0, 1) := by decide +kernel
theorem dX2_take_12 : decode cX2_take 12 = .ok (.iconst 1, 1) := by decide +kernel
theorem dX2_take_13 : decode cX2_take 13 = .ok (.invokestatic 57, 3) := by decide +kernel
theorem dX2_take_16 : decode cX2_take 16 = .ok (.ifCond .ne 6, 3) := by decide +kernel
theorem dX2_take_19 : decode cX2_take 19 = .ok (.bipush (-2), 2) := by decide +kernel
theorem dX2_take_21 : decode cX2_take 21 = .ok (.ireturn, 1) := by decide +kernel
theorem dX2_take_22 : decode cX2_take 22 = .ok (.iload_n 2, 1) := by decide +kernel
theorem dX2_take_23 : decode cX2_take 23 = .ok (.iconst 1, 1) := by decide +kernel
theorem dX2_take_24 : decode cX2_take 24 = .ok (.if_icmp .ne 21, 3) := by decide +kernel
theorem dX2_take_27 : decode cX2_take 27 = .ok (.aload_n 0, 1) := by decide +kernel
theorem dX2_take_28 : decode cX2_take 28 = .ok (.getfield 12, 3) := by decide +kernel
theorem dX2_take_31 : decode cX2_take 31 = .ok (.dup, 1) := by decide +kernel
theorem dX2_take_32 : decode cX2_take 32 = .ok (.getfield 50, 3) := by decide +kernel
theorem dX2_take_35 : decode cX2_take 35 = .ok (.iconst 1, 1) := by decide +kernel
theorem dX2_take_36 : decode cX2_take 36 = .ok (.iload_n 1, 1) := by decide +kernel
theorem dX2_take_37 : decode cX2_take 37 = .ok (.ishl, 1) := by decide +kernel
theorem dX2_take_38 : decode cX2_take 38 = .ok (.ior, 1) := by decide +kernel
theorem dX2_take_39 : decode cX2_take 39 = .ok (.putfield 50, 3) := by decide +kernel
theorem dX2_take_42 : decode cX2_take 42 = .ok (.goto 20, 3) := by decide +kernel
theorem dX2_take_45 : decode cX2_take 45 = .ok (.aload_n 0, 1) := by decide +kernel
theorem dX2_take_46 : decode cX2_take 46 = .ok (.getfield 12, 3) := by decide +kernel
theorem dX2_take_49 : decode cX2_take 49 = .ok (.dup, 1) := by decide +kernel
theorem dX2_take_50 : decode cX2_take 50 = .ok (.getfield 50, 3) := by decide +kernel
theorem dX2_take_53 : decode cX2_take 53 = .ok (.iconst 1, 1) := by decide +kernel
theorem dX2_take_54 : decode cX2_take 54 = .ok (.iload_n 1, 1) := by decide +kernel
theorem dX2_take_55 : decode cX2_take 55 = .ok (.ishl, 1) := by decide +kernel
theorem dX2_take_56 : decode cX2_take 56 = .ok (.iconst (-1), 1) := by decide +kernel
theorem dX2_take_57 : decode cX2_take 57 = .ok (.ixor, 1) := by decide +kernel
theorem dX2_take_58 : decode cX2_take 58 = .ok (.iand, 1) := by decide +kernel
theorem dX2_take_59 : decode cX2_take 59 = .ok (.putfield 50, 3) := by decide +kernel
theorem dX2_take_62 : decode cX2_take 62 = .ok (.aload_n 0, 1) := by decide +kernel
theorem dX2_take_63 : decode cX2_take 63 = .ok (.getfield 12, 3) := by decide +kernel
theorem dX2_take_66 : decode cX2_take 66 = .ok (.getfield 50, 3) := by decide +kernel
theorem dX2_take_69 : decode cX2_take 69 = .ok (.invokestatic 61, 3) := by decide +kernel
theorem dX2_take_72 : decode cX2_take 72 = .ok (.ireturn, 1) := by decide +kernel
set_option maxRecDepth 20000 in
theorem ggX2_of_X2_isSample : GoodIn wsX2_of wsX2_isSample := goodIn_r _ [9, 1, 10, 17, 18, 19, 20, 21, 22, 23, 24, 25, 26, 27] (by decide +kernel) (by decide +kernel)
set_option maxRecDepth 20000 in
theorem gX2_of_X2_isSample : GoodIn wsX2_of (wsV RX2 53 RX2 yX2_isSample wsX2_isSample) := goodIn_app (goodIn_of _ (by decide +kernel)) ggX2_of_X2_isSample
set_option maxRecDepth 20000 in
theorem ggX2_of_X2_isIn : GoodIn wsX2_of wsX2_isIn := goodIn_r _ [13] (by decide +kernel) (by decide +kernel)
set_option maxRecDepth 20000 in
theorem gX2_of_X2_isIn : GoodIn wsX2_of (va_wsS RX2 67 yX2_isIn wsX2_isIn) := goodIn_app (goodIn_of _ (by decide +kernel)) ggX2_of_X2_isIn
set_option maxRecDepth 20000 in
theorem ggX2_of_X2_powerAt : GoodIn wsX2_of wsX2_powerAt := goodIn_r _ [16] (by decide +kernel) (by decide +kernel)
set_option maxRecDepth 20000 in
theorem gX2_of_X2_powerAt : GoodIn wsX2_of (va_wsS RX2 70 yX2_powerAt wsX2_powerAt) := goodIn_app (goodIn_of _ (by decide +kernel)) ggX2_of_X2_powerAt
theorem dX2_of_0 : decode cX2_of 0 = .ok (.aload_n 0, 1) := by decide +kernel
theorem dX2_of_1 : decode cX2_of 1 = .ok (.iload_n 1, 1) := by decide +kernel
theorem dX2_of_2 : decode cX2_of 2 = .ok (.invokevirtual 53, 3) := by decide +kernel
theorem dX2_of_5 : decode cX2_of 5 = .ok (.ifCond .ne 5, 3) := by decide +kernel
theorem dX2_of_8 : decode cX2_of 8 = .ok (.iconst (-1), 1) := by decide +kernel
theorem dX2_of_9 : decode cX2_of 9 = .ok (.ireturn, 1) := by decide +kernel
theorem dX2_of_10 : decode cX2_of 10 = .ok (.iload_n 2, 1) := by decide +kernel
theorem dX2_of_11 : decode cX2_of 11 = .ok (.tableswitch 97 0 3 #[29, 42, 55, 75], 29) := by decide +kernel
theorem dX2_of_40 : decode cX2_of 40 = .ok (.aload_n 0, 1) := by decide +kernel
theorem dX2_of_41 : decode cX2_of 41 = .ok (.getfield 12, 3) := by decide +kernel
theorem dX2_of_44 : decode cX2_of 44 = .ok (.getfield 43, 3) := by decide +kernel
theorem dX2_of_47 : decode cX2_of 47 = .ok (.iload_n 1, 1) := by decide +kernel
theorem dX2_of_48 : decode cX2_of 48 = .ok (.iaload, 1) := by decide +kernel
theorem dX2_of_49 : decode cX2_of 49 = .ok (.bipush 100, 2) := by decide +kernel
theorem dX2_of_51 : decode cX2_of 51 = .ok (.iadd, 1) := by decide +kernel
theorem dX2_of_52 : decode cX2_of 52 = .ok (.ireturn, 1) := by decide +kernel
theorem dX2_of_53 : decode cX2_of 53 = .ok (.aload_n 0, 1) := by decide +kernel
theorem dX2_of_54 : decode cX2_of 54 = .ok (.getfield 12, 3) := by decide +kernel
theorem dX2_of_57 : decode cX2_of 57 = .ok (.getfield 47, 3) := by decide +kernel
theorem dX2_of_60 : decode cX2_of 60 = .ok (.iload_n 1, 1) := by decide +kernel
theorem dX2_of_61 : decode cX2_of 61 = .ok (.iaload, 1) := by decide +kernel
theorem dX2_of_62 : decode cX2_of 62 = .ok (.bipush 100, 2) := by decide +kernel
theorem dX2_of_64 : decode cX2_of 64 = .ok (.iadd, 1) := by decide +kernel
theorem dX2_of_65 : decode cX2_of 65 = .ok (.ireturn, 1) := by decide +kernel
theorem dX2_of_66 : decode cX2_of 66 = .ok (.aload_n 0, 1) := by decide +kernel
theorem dX2_of_67 : decode cX2_of 67 = .ok (.getfield 12, 3) := by decide +kernel
theorem dX2_of_70 : decode cX2_of 70 = .ok (.getfield 50, 3) := by decide +kernel
theorem dX2_of_73 : decode cX2_of 73 = .ok (.iload_n 1, 1) := by decide +kernel
theorem dX2_of_74 : decode cX2_of 74 = .ok (.invokestatic 67, 3) := by decide +kernel
theorem dX2_of_77 : decode cX2_of 77 = .ok (.ifCond .eq 7, 3) := by decide +kernel
theorem dX2_of_80 : decode cX2_of 80 = .ok (.iconst 1, 1) := by decide +kernel
theorem dX2_of_81 : decode cX2_of 81 = .ok (.goto 4, 3) := by decide +kernel
theorem dX2_of_84 : decode cX2_of 84 = .ok (.iconst 0, 1) := by decide +kernel
theorem dX2_of_85 : decode cX2_of 85 = .ok (.ireturn, 1) := by decide +kernel
theorem dX2_of_86 : decode cX2_of 86 = .ok (.aload_n 0, 1) := by decide +kernel
theorem dX2_of_87 : decode cX2_of 87 = .ok (.getfield 12, 3) := by decide +kernel
theorem dX2_of_90 : decode cX2_of 90 = .ok (.getfield 43, 3) := by decide +kernel
theorem dX2_of_93 : decode cX2_of 93 = .ok (.iload_n 1, 1) := by decide +kernel
theorem dX2_of_94 : decode cX2_of 94 = .ok (.iaload, 1) := by decide +kernel
theorem dX2_of_95 : decode cX2_of 95 = .ok (.aload_n 0, 1) := by decide +kernel
theorem dX2_of_96 : decode cX2_of 96 = .ok (.getfield 12, 3) := by decide +kernel
theorem dX2_of_99 : decode cX2_of 99 = .ok (.getfield 47, 3) := by decide +kernel
theorem dX2_of_102 : decode cX2_of 102 = .ok (.iload_n 1, 1) := by decide +kernel
theorem dX2_of_103 : decode cX2_of 103 = .ok (.iaload, 1) := by decide +kernel
theorem dX2_of_104 : decode cX2_of 104 = .ok (.invokestatic 70, 3) := by decide +kernel
theorem dX2_of_107 : decode cX2_of 107 = .ok (.ireturn, 1) := by decide +kernel
theorem dX2_of_108 : decode cX2_of 108 = .ok (.bipush (-2), 2) := by decide +kernel
theorem dX2_of_110 : decode cX2_of 110 = .ok (.ireturn, 1) := by decide +kernel
set_option maxRecDepth 20000 in
theorem ggX2_round_X2_isBetween : GoodIn wsX2_round wsX2_isBetween := goodIn_r _ [11] (by decide +kernel) (by decide +kernel)
set_option maxRecDepth 20000 in
theorem gX2_round_X2_isBetween : GoodIn wsX2_round (va_wsS RX2 57 yX2_isBetween wsX2_isBetween) := goodIn_app (goodIn_of _ (by decide +kernel)) ggX2_round_X2_isBetween
set_option maxRecDepth 20000 in
theorem ggX2_round_X2_layTheRound : GoodIn wsX2_round wsX2_layTheRound := goodIn_r _ [15, 2, 16, 17, 18, 19, 20, 10, 21, 22, 23, 24, 25, 26, 27, 28, 29, 30, 31, 32, 33, 34, 35, 36, 37, 38, 39, 40, 41, 42, 43, 44, 45, 46, 47, 48, 49, 50, 51, 52, 53, 54, 73, 74, 75, 76, 77, 78, 92, 93, 94, 95, 96, 79, 80, 81, 82, 83, 84, 85, 86, 87, 88, 89, 90, 91] (by decide +kernel) (by decide +kernel)
set_option maxRecDepth 20000 in
theorem gX2_round_X2_layTheRound : GoodIn wsX2_round (wsV RX2 76 RX2 yX2_layTheRound wsX2_layTheRound) := goodIn_app (goodIn_of _ (by decide +kernel)) ggX2_round_X2_layTheRound
set_option maxRecDepth 20000 in
theorem ggX2_round_X0_isFlat : GoodIn wsX2_round wsX0_isFlat := goodIn_r _ [58, 51, 79, 80, 81, 82, 83, 84, 85, 86, 87, 88, 89, 90, 91] (by decide +kernel) (by decide +kernel)
set_option maxRecDepth 20000 in
theorem gX2_round_X0_isFlat : GoodIn wsX2_round (wsV RX2 79 RX0 yX0_isFlat wsX0_isFlat) := goodIn_app (goodIn_of _ (by decide +kernel)) ggX2_round_X0_isFlat
set_option maxRecDepth 20000 in
theorem ggX2_round_X0_fullLower : GoodIn wsX2_round wsX0_fullLower := goodIn_r _ [62, 29, 51, 79, 80, 81, 82, 83, 84, 85, 86, 87, 88, 89, 90, 91] (by decide +kernel) (by decide +kernel)
set_option maxRecDepth 20000 in
theorem gX2_round_X0_fullLower : GoodIn wsX2_round (wsV RX2 89 RX0 yX0_fullLower wsX0_fullLower) := goodIn_app (goodIn_of _ (by decide +kernel)) ggX2_round_X0_fullLower
set_option maxRecDepth 20000 in
theorem ggX2_round_X2_partOfLowest : GoodIn wsX2_round wsX2_partOfLowest := goodIn_r _ [65, 66, 67, 68, 69, 70, 71, 10, 72] (by decide +kernel) (by decide +kernel)
set_option maxRecDepth 20000 in
theorem gX2_round_X2_partOfLowest : GoodIn wsX2_round (va_wsS RX2 93 yX2_partOfLowest wsX2_partOfLowest) := goodIn_app (goodIn_of _ (by decide +kernel)) ggX2_round_X2_partOfLowest
theorem dX2_round_0 : decode cX2_round 0 = .ok (.iload_n 1, 1) := by decide +kernel
theorem dX2_round_1 : decode cX2_round 1 = .ok (.iconst 0, 1) := by decide +kernel
theorem dX2_round_2 : decode cX2_round 2 = .ok (.iconst 2, 1) := by decide +kernel
theorem dX2_round_3 : decode cX2_round 3 = .ok (.invokestatic 57, 3) := by decide +kernel
theorem dX2_round_6 : decode cX2_round 6 = .ok (.ifCond .eq 12, 3) := by decide +kernel
theorem dX2_round_9 : decode cX2_round 9 = .ok (.iload_n 2, 1) := by decide +kernel
theorem dX2_round_10 : decode cX2_round 10 = .ok (.iconst 0, 1) := by decide +kernel
theorem dX2_round_11 : decode cX2_round 11 = .ok (.iconst 1, 1) := by decide +kernel
theorem dX2_round_12 : decode cX2_round 12 = .ok (.invokestatic 57, 3) := by decide +kernel
theorem dX2_round_15 : decode cX2_round 15 = .ok (.ifCond .ne 7, 3) := by decide +kernel
theorem dX2_round_18 : decode cX2_round 18 = .ok (.ldc2_w 74, 3) := by decide +kernel
theorem dX2_round_21 : decode cX2_round 21 = .ok (.lreturn, 1) := by decide +kernel
theorem dX2_round_22 : decode cX2_round 22 = .ok (.aload_n 0, 1) := by decide +kernel
theorem dX2_round_23 : decode cX2_round 23 = .ok (.invokevirtual 76, 3) := by decide +kernel
theorem dX2_round_26 : decode cX2_round 26 = .ok (.aload_n 0, 1) := by decide +kernel
theorem dX2_round_27 : decode cX2_round 27 = .ok (.getfield 29, 3) := by decide +kernel
theorem dX2_round_30 : decode cX2_round 30 = .ok (.invokevirtual 79, 3) := by decide +kernel
theorem dX2_round_33 : decode cX2_round 33 = .ok (.ifCond .eq 7, 3) := by decide +kernel
theorem dX2_round_36 : decode cX2_round 36 = .ok (.ldc2_w 83, 3) := by decide +kernel
theorem dX2_round_39 : decode cX2_round 39 = .ok (.lreturn, 1) := by decide +kernel
theorem dX2_round_40 : decode cX2_round 40 = .ok (.iload_n 1, 1) := by decide +kernel
theorem dX2_round_41 : decode cX2_round 41 = .ok (.iconst 2, 1) := by decide +kernel
theorem dX2_round_42 : decode cX2_round 42 = .ok (.if_icmp .ne 22, 3) := by decide +kernel
theorem dX2_round_45 : decode cX2_round 45 = .ok (.aload_n 0, 1) := by decide +kernel
theorem dX2_round_46 : decode cX2_round 46 = .ok (.getfield 29, 3) := by decide +kernel
theorem dX2_round_49 : decode cX2_round 49 = .ok (.getfield 85, 3) := by decide +kernel
theorem dX2_round_52 : decode cX2_round 52 = .ok (.aload_n 0, 1) := by decide +kernel
theorem dX2_round_53 : decode cX2_round 53 = .ok (.getfield 29, 3) := by decide +kernel
theorem dX2_round_56 : decode cX2_round 56 = .ok (.invokevirtual 89, 3) := by decide +kernel
theorem dX2_round_59 : decode cX2_round 59 = .ok (.iload_n 2, 1) := by decide +kernel
theorem dX2_round_60 : decode cX2_round 60 = .ok (.invokestatic 93, 3) := by decide +kernel
theorem dX2_round_63 : decode cX2_round 63 = .ok (.lreturn, 1) := by decide +kernel
theorem dX2_round_64 : decode cX2_round 64 = .ok (.iload_n 1, 1) := by decide +kernel
theorem dX2_round_65 : decode cX2_round 65 = .ok (.ifCond .ne 13, 3) := by decide +kernel
theorem dX2_round_68 : decode cX2_round 68 = .ok (.aload_n 0, 1) := by decide +kernel
theorem dX2_round_69 : decode cX2_round 69 = .ok (.getfield 29, 3) := by decide +kernel
theorem dX2_round_72 : decode cX2_round 72 = .ok (.getfield 97, 3) := by decide +kernel
theorem dX2_round_75 : decode cX2_round 75 = .ok (.goto 10, 3) := by decide +kernel
theorem dX2_round_78 : decode cX2_round 78 = .ok (.aload_n 0, 1) := by decide +kernel
theorem dX2_round_79 : decode cX2_round 79 = .ok (.getfield 29, 3) := by decide +kernel
theorem dX2_round_82 : decode cX2_round 82 = .ok (.getfield 100, 3) := by decide +kernel
theorem dX2_round_85 : decode cX2_round 85 = .ok (.aload_n 0, 1) := by decide +kernel
theorem dX2_round_86 : decode cX2_round 86 = .ok (.getfield 29, 3) := by decide +kernel
theorem dX2_round_89 : decode cX2_round 89 = .ok (.getfield 103, 3) := by decide +kernel
theorem dX2_round_92 : decode cX2_round 92 = .ok (.iload_n 2, 1) := by decide +kernel
theorem dX2_round_93 : decode cX2_round 93 = .ok (.invokestatic 93, 3) := by decide +kernel
theorem dX2_round_96 : decode cX2_round 96 = .ok (.lreturn, 1) := by decide +kernel
set_option maxRecDepth 20000 in
theorem ggX2_middle_X2_isBetween : GoodIn wsX2_middle wsX2_isBetween := goodIn_r _ [11] (by decide +kernel) (by decide +kernel)
set_option maxRecDepth 20000 in
theorem gX2_middle_X2_isBetween : GoodIn wsX2_middle (va_wsS RX2 57 yX2_isBetween wsX2_isBetween) := goodIn_app (goodIn_of _ (by decide +kernel)) ggX2_middle_X2_isBetween
set_option maxRecDepth 20000 in
theorem ggX2_middle_X2_layTheRound : GoodIn wsX2_middle wsX2_layTheRound := goodIn_r _ [15, 2, 16, 17, 18, 19, 20, 10, 21, 22, 23, 24, 25, 26, 27, 28, 29, 30, 31, 32, 33, 34, 35, 36, 37, 38, 39, 40, 41, 42, 43, 44, 45, 46, 47, 48, 49, 50, 51, 52, 53, 54, 69, 70, 71, 72, 73, 74, 88, 89, 90, 91, 92, 75, 76, 77, 78, 79, 80, 81, 82, 83, 84, 85, 86, 87] (by decide +kernel) (by decide +kernel)
set_option maxRecDepth 20000 in
theorem gX2_middle_X2_layTheRound : GoodIn wsX2_middle (wsV RX2 76 RX2 yX2_layTheRound wsX2_layTheRound) := goodIn_app (goodIn_of _ (by decide +kernel)) ggX2_middle_X2_layTheRound
set_option maxRecDepth 20000 in
theorem ggX2_middle_X0_isFlat : GoodIn wsX2_middle wsX0_isFlat := goodIn_r _ [58, 51, 75, 76, 77, 78, 79, 80, 81, 82, 83, 84, 85, 86, 87] (by decide +kernel) (by decide +kernel)
set_option maxRecDepth 20000 in
theorem gX2_middle_X0_isFlat : GoodIn wsX2_middle (wsV RX2 79 RX0 yX0_isFlat wsX0_isFlat) := goodIn_app (goodIn_of _ (by decide +kernel)) ggX2_middle_X0_isFlat
set_option maxRecDepth 20000 in
theorem ggX2_middle_X2_partOfLowest : GoodIn wsX2_middle wsX2_partOfLowest := goodIn_r _ [61, 62, 63, 64, 65, 66, 67, 10, 68] (by decide +kernel) (by decide +kernel)
set_option maxRecDepth 20000 in
theorem gX2_middle_X2_partOfLowest : GoodIn wsX2_middle (va_wsS RX2 93 yX2_partOfLowest wsX2_partOfLowest) := goodIn_app (goodIn_of _ (by decide +kernel)) ggX2_middle_X2_partOfLowest
theorem dX2_middle_0 : decode cX2_middle 0 = .ok (.iload_n 1, 1) := by decide +kernel
theorem dX2_middle_1 : decode cX2_middle 1 = .ok (.iconst 0, 1) := by decide +kernel
theorem dX2_middle_2 : decode cX2_middle 2 = .ok (.iconst 1, 1) := by decide +kernel
theorem dX2_middle_3 : decode cX2_middle 3 = .ok (.invokestatic 57, 3) := by decide +kernel
theorem dX2_middle_6 : decode cX2_middle 6 = .ok (.ifCond .eq 12, 3) := by decide +kernel
theorem dX2_middle_9 : decode cX2_middle 9 = .ok (.iload_n 2, 1) := by decide +kernel
theorem dX2_middle_10 : decode cX2_middle 10 = .ok (.iconst 0, 1) := by decide +kernel
theorem dX2_middle_11 : decode cX2_middle 11 = .ok (.iconst 1, 1) := by decide +kernel
theorem dX2_middle_12 : decode cX2_middle 12 = .ok (.invokestatic 57, 3) := by decide +kernel
theorem dX2_middle_15 : decode cX2_middle 15 = .ok (.ifCond .ne 7, 3) := by decide +kernel
theorem dX2_middle_18 : decode cX2_middle 18 = .ok (.ldc2_w 74, 3) := by decide +kernel
theorem dX2_middle_21 : decode cX2_middle 21 = .ok (.lreturn, 1) := by decide +kernel
theorem dX2_middle_22 : decode cX2_middle 22 = .ok (.aload_n 0, 1) := by decide +kernel
theorem dX2_middle_23 : decode cX2_middle 23 = .ok (.invokevirtual 76, 3) := by decide +kernel
theorem dX2_middle_26 : decode cX2_middle 26 = .ok (.aload_n 0, 1) := by decide +kernel
theorem dX2_middle_27 : decode cX2_middle 27 = .ok (.getfield 29, 3) := by decide +kernel
theorem dX2_middle_30 : decode cX2_middle 30 = .ok (.invokevirtual 79, 3) := by decide +kernel
theorem dX2_middle_33 : decode cX2_middle 33 = .ok (.ifCond .eq 7, 3) := by decide +kernel
theorem dX2_middle_36 : decode cX2_middle 36 = .ok (.ldc2_w 83, 3) := by decide +kernel
theorem dX2_middle_39 : decode cX2_middle 39 = .ok (.lreturn, 1) := by decide +kernel
theorem dX2_middle_40 : decode cX2_middle 40 = .ok (.iload_n 1, 1) := by decide +kernel
theorem dX2_middle_41 : decode cX2_middle 41 = .ok (.ifCond .ne 13, 3) := by decide +kernel
theorem dX2_middle_44 : decode cX2_middle 44 = .ok (.aload_n 0, 1) := by decide +kernel
theorem dX2_middle_45 : decode cX2_middle 45 = .ok (.getfield 29, 3) := by decide +kernel
theorem dX2_middle_48 : decode cX2_middle 48 = .ok (.getfield 97, 3) := by decide +kernel
theorem dX2_middle_51 : decode cX2_middle 51 = .ok (.goto 10, 3) := by decide +kernel
theorem dX2_middle_54 : decode cX2_middle 54 = .ok (.aload_n 0, 1) := by decide +kernel
theorem dX2_middle_55 : decode cX2_middle 55 = .ok (.getfield 29, 3) := by decide +kernel
theorem dX2_middle_58 : decode cX2_middle 58 = .ok (.getfield 100, 3) := by decide +kernel
theorem dX2_middle_61 : decode cX2_middle 61 = .ok (.ldc2_w 106, 3) := by decide +kernel
theorem dX2_middle_64 : decode cX2_middle 64 = .ok (.aload_n 0, 1) := by decide +kernel
theorem dX2_middle_65 : decode cX2_middle 65 = .ok (.getfield 29, 3) := by decide +kernel
theorem dX2_middle_68 : decode cX2_middle 68 = .ok (.getfield 103, 3) := by decide +kernel
theorem dX2_middle_71 : decode cX2_middle 71 = .ok (.lmul, 1) := by decide +kernel
theorem dX2_middle_72 : decode cX2_middle 72 = .ok (.iload_n 2, 1) := by decide +kernel
theorem dX2_middle_73 : decode cX2_middle 73 = .ok (.invokestatic 93, 3) := by decide +kernel
theorem dX2_middle_76 : decode cX2_middle 76 = .ok (.lreturn, 1) := by decide +kernel
set_option maxRecDepth 20000 in
theorem ggX2_off_X2_isSample : GoodIn wsX2_off wsX2_isSample := goodIn_r _ [12, 5, 13, 79, 80, 81, 82, 83, 84, 85, 86, 87, 88, 89] (by decide +kernel) (by decide +kernel)
set_option maxRecDepth 20000 in
theorem gX2_off_X2_isSample : GoodIn wsX2_off (wsV RX2 53 RX2 yX2_isSample wsX2_isSample) := goodIn_app (goodIn_of _ (by decide +kernel)) ggX2_off_X2_isSample
set_option maxRecDepth 20000 in
theorem ggX2_off_X2_isBetween : GoodIn wsX2_off wsX2_isBetween := goodIn_r _ [16] (by decide +kernel) (by decide +kernel)
set_option maxRecDepth 20000 in
theorem gX2_off_X2_isBetween : GoodIn wsX2_off (va_wsS RX2 57 yX2_isBetween wsX2_isBetween) := goodIn_app (goodIn_of _ (by decide +kernel)) ggX2_off_X2_isBetween
set_option maxRecDepth 20000 in
theorem ggX2_off_X2_layTheRound : GoodIn wsX2_off wsX2_layTheRound := goodIn_r _ [20, 3, 5, 21, 22, 23, 24, 11, 25, 6, 7, 26, 27, 28, 29, 30, 31, 32, 33, 34, 35, 36, 37, 38, 39, 40, 41, 42, 43, 44, 45, 46, 47, 48, 49, 50, 51, 52, 53, 54, 55, 56, 79, 80, 81, 82, 83, 84, 85, 86, 87, 88, 89, 90, 91, 92, 93, 94, 95, 96, 97, 98, 99, 100, 101, 102] (by decide +kernel) (by decide +kernel)
set_option maxRecDepth 20000 in
theorem gX2_off_X2_layTheRound : GoodIn wsX2_off (wsV RX2 76 RX2 yX2_layTheRound wsX2_layTheRound) := goodIn_app (goodIn_of _ (by decide +kernel)) ggX2_off_X2_layTheRound
set_option maxRecDepth 20000 in
theorem ggX2_off_X0_isFlat : GoodIn wsX2_off wsX0_isFlat := goodIn_r _ [60, 53, 90, 91, 92, 93, 94, 95, 96, 97, 98, 99, 100, 101, 102] (by decide +kernel) (by decide +kernel)
set_option maxRecDepth 20000 in
theorem gX2_off_X0_isFlat : GoodIn wsX2_off (wsV RX2 79 RX0 yX0_isFlat wsX0_isFlat) := goodIn_app (goodIn_of _ (by decide +kernel)) ggX2_off_X0_isFlat
set_option maxRecDepth 20000 in
theorem ggX2_off_X0_offUpperAt : GoodIn wsX2_off wsX0_offUpperAt := goodIn_r _ [64, 31, 53, 54, 55, 56, 47, 11, 48, 90, 91, 92, 93, 94, 95, 96, 97, 98, 99, 100, 101, 102] (by decide +kernel) (by decide +kernel)
set_option maxRecDepth 20000 in
theorem gX2_off_X0_offUpperAt : GoodIn wsX2_off (wsV RX2 110 RX0 yX0_offUpperAt wsX0_offUpperAt) := goodIn_app (goodIn_of _ (by decide +kernel)) ggX2_off_X0_offUpperAt
set_option maxRecDepth 20000 in
theorem ggX2_off_X0_fullLower : GoodIn wsX2_off wsX0_fullLower := goodIn_r _ [68, 31, 53, 90, 91, 92, 93, 94, 95, 96, 97, 98, 99, 100, 101, 102] (by decide +kernel) (by decide +kernel)
set_option maxRecDepth 20000 in
theorem gX2_off_X0_fullLower : GoodIn wsX2_off (wsV RX2 89 RX0 yX0_fullLower wsX0_fullLower) := goodIn_app (goodIn_of _ (by decide +kernel)) ggX2_off_X0_fullLower
set_option maxRecDepth 20000 in
theorem ggX2_off_X2_partOfLowest : GoodIn wsX2_off wsX2_partOfLowest := goodIn_r _ [71, 72, 73, 74, 75, 76, 77, 11, 78] (by decide +kernel) (by decide +kernel)
set_option maxRecDepth 20000 in
theorem gX2_off_X2_partOfLowest : GoodIn wsX2_off (va_wsS RX2 93 yX2_partOfLowest wsX2_partOfLowest) := goodIn_app (goodIn_of _ (by decide +kernel)) ggX2_off_X2_partOfLowest
theorem dX2_off_0 : decode cX2_off 0 = .ok (.aload_n 0, 1) := by decide +kernel
theorem dX2_off_1 : decode cX2_off 1 = .ok (.iload_n 1, 1) := by decide +kernel
theorem dX2_off_2 : decode cX2_off 2 = .ok (.invokevirtual 53, 3) := by decide +kernel
theorem dX2_off_5 : decode cX2_off 5 = .ok (.ifCond .ne 7, 3) := by decide +kernel
theorem dX2_off_8 : decode cX2_off 8 = .ok (.ldc2_w 108, 3) := by decide +kernel
theorem dX2_off_11 : decode cX2_off 11 = .ok (.lreturn, 1) := by decide +kernel
theorem dX2_off_12 : decode cX2_off 12 = .ok (.iload_n 2, 1) := by decide +kernel
theorem dX2_off_13 : decode cX2_off 13 = .ok (.iconst 0, 1) := by decide +kernel
theorem dX2_off_14 : decode cX2_off 14 = .ok (.iconst 1, 1) := by decide +kernel
theorem dX2_off_15 : decode cX2_off 15 = .ok (.invokestatic 57, 3) := by decide +kernel
theorem dX2_off_18 : decode cX2_off 18 = .ok (.ifCond .ne 7, 3) := by decide +kernel
theorem dX2_off_21 : decode cX2_off 21 = .ok (.ldc2_w 74, 3) := by decide +kernel
theorem dX2_off_24 : decode cX2_off 24 = .ok (.lreturn, 1) := by decide +kernel
theorem dX2_off_25 : decode cX2_off 25 = .ok (.aload_n 0, 1) := by decide +kernel
theorem dX2_off_26 : decode cX2_off 26 = .ok (.invokevirtual 76, 3) := by decide +kernel
theorem dX2_off_29 : decode cX2_off 29 = .ok (.aload_n 0, 1) := by decide +kernel
theorem dX2_off_30 : decode cX2_off 30 = .ok (.getfield 29, 3) := by decide +kernel
theorem dX2_off_33 : decode cX2_off 33 = .ok (.invokevirtual 79, 3) := by decide +kernel
theorem dX2_off_36 : decode cX2_off 36 = .ok (.ifCond .eq 7, 3) := by decide +kernel
theorem dX2_off_39 : decode cX2_off 39 = .ok (.ldc2_w 83, 3) := by decide +kernel
theorem dX2_off_42 : decode cX2_off 42 = .ok (.lreturn, 1) := by decide +kernel
theorem dX2_off_43 : decode cX2_off 43 = .ok (.aload_n 0, 1) := by decide +kernel
theorem dX2_off_44 : decode cX2_off 44 = .ok (.getfield 29, 3) := by decide +kernel
theorem dX2_off_47 : decode cX2_off 47 = .ok (.aload_n 0, 1) := by decide +kernel
theorem dX2_off_48 : decode cX2_off 48 = .ok (.getfield 12, 3) := by decide +kernel
theorem dX2_off_51 : decode cX2_off 51 = .ok (.getfield 43, 3) := by decide +kernel
theorem dX2_off_54 : decode cX2_off 54 = .ok (.iload_n 1, 1) := by decide +kernel
theorem dX2_off_55 : decode cX2_off 55 = .ok (.iaload, 1) := by decide +kernel
theorem dX2_off_56 : decode cX2_off 56 = .ok (.aload_n 0, 1) := by decide +kernel
theorem dX2_off_57 : decode cX2_off 57 = .ok (.getfield 12, 3) := by decide +kernel
theorem dX2_off_60 : decode cX2_off 60 = .ok (.getfield 47, 3) := by decide +kernel
theorem dX2_off_63 : decode cX2_off 63 = .ok (.iload_n 1, 1) := by decide +kernel
theorem dX2_off_64 : decode cX2_off 64 = .ok (.iaload, 1) := by decide +kernel
theorem dX2_off_65 : decode cX2_off 65 = .ok (.invokevirtual 110, 3) := by decide +kernel
theorem dX2_off_68 : decode cX2_off 68 = .ok (.lstore_n 3, 1) := by decide +kernel
theorem dX2_off_69 : decode cX2_off 69 = .ok (.lload_n 3, 1) := by decide +kernel
theorem dX2_off_70 : decode cX2_off 70 = .ok (.aload_n 0, 1) := by decide +kernel
theorem dX2_off_71 : decode cX2_off 71 = .ok (.getfield 29, 3) := by decide +kernel
theorem dX2_off_74 : decode cX2_off 74 = .ok (.invokevirtual 89, 3) := by decide +kernel
theorem dX2_off_77 : decode cX2_off 77 = .ok (.iload_n 2, 1) := by decide +kernel
theorem dX2_off_78 : decode cX2_off 78 = .ok (.invokestatic 93, 3) := by decide +kernel
theorem dX2_off_81 : decode cX2_off 81 = .ok (.lreturn, 1) := by decide +kernel
set_option maxRecDepth 20000 in
theorem ggX2_worst_X2_isBetween : GoodIn wsX2_worst wsX2_isBetween := goodIn_r _ [5] (by decide +kernel) (by decide +kernel)
set_option maxRecDepth 20000 in
theorem gX2_worst_X2_isBetween : GoodIn wsX2_worst (va_wsS RX2 57 yX2_isBetween wsX2_isBetween) := goodIn_app (goodIn_of _ (by decide +kernel)) ggX2_worst_X2_isBetween
set_option maxRecDepth 20000 in
theorem ggX2_worst_X2_layTheRound : GoodIn wsX2_worst wsX2_layTheRound := goodIn_r _ [9, 1, 10, 11, 12, 13, 14, 4, 15, 16, 17, 18, 19, 20, 21, 22, 23, 24, 25, 26, 27, 28, 29, 30, 31, 32, 33, 34, 35, 36, 37, 38, 39, 40, 41, 42, 43, 44, 45, 46, 47, 48, 79, 80, 81, 82, 83, 84, 85, 86, 87, 88, 89, 90, 91, 92, 93, 94, 95, 96, 97, 98, 99, 100, 101, 102] (by decide +kernel) (by decide +kernel)
set_option maxRecDepth 20000 in
theorem gX2_worst_X2_layTheRound : GoodIn wsX2_worst (wsV RX2 76 RX2 yX2_layTheRound wsX2_layTheRound) := goodIn_app (goodIn_of _ (by decide +kernel)) ggX2_worst_X2_layTheRound
set_option maxRecDepth 20000 in
theorem ggX2_worst_X0_isFlat : GoodIn wsX2_worst wsX0_isFlat := goodIn_r _ [52, 45, 90, 91, 92, 93, 94, 95, 96, 97, 98, 99, 100, 101, 102] (by decide +kernel) (by decide +kernel)
set_option maxRecDepth 20000 in
theorem gX2_worst_X0_isFlat : GoodIn wsX2_worst (wsV RX2 79 RX0 yX0_isFlat wsX0_isFlat) := goodIn_app (goodIn_of _ (by decide +kernel)) ggX2_worst_X0_isFlat
set_option maxRecDepth 20000 in
theorem ggX2_worst_X2_worstSample : GoodIn wsX2_worst wsX2_worstSample := goodIn_r _ [56, 57, 10, 11, 1, 32, 33, 4, 34, 58, 59, 60, 61, 16, 17, 62, 63, 64, 65, 66, 67, 68, 69, 70, 71, 72, 73, 21, 74, 23, 45, 46, 47, 48, 39, 40, 79, 80, 81, 82, 83, 84, 85, 86, 87, 88, 89, 90, 91, 92, 93, 94, 95, 96, 97, 98, 99, 100, 101, 102] (by decide +kernel) (by decide +kernel)
set_option maxRecDepth 20000 in
theorem gX2_worst_X2_worstSample : GoodIn wsX2_worst (wsV RX2 114 RX2 yX2_worstSample wsX2_worstSample) := goodIn_app (goodIn_of _ (by decide +kernel)) ggX2_worst_X2_worstSample
set_option maxRecDepth 20000 in
theorem ggX2_worst_X0_fullLower : GoodIn wsX2_worst wsX0_fullLower := goodIn_r _ [78, 23, 45, 90, 91, 92, 93, 94, 95, 96, 97, 98, 99, 100, 101, 102] (by decide +kernel) (by decide +kernel)
set_option maxRecDepth 20000 in
theorem gX2_worst_X0_fullLower : GoodIn wsX2_worst (wsV RX2 89 RX0 yX0_fullLower wsX0_fullLower) := goodIn_app (goodIn_of _ (by decide +kernel)) ggX2_worst_X0_fullLower
set_option maxRecDepth 20000 in
theorem ggX2_worst_X2_sizeUpper : GoodIn wsX2_worst wsX2_sizeUpper := goodIn_r _ [61, 10, 16, 17, 62, 63, 64, 65, 66, 67, 68, 4, 69, 70, 71, 72, 73, 21, 74, 23, 45, 46, 47, 48, 39, 40, 79, 80, 81, 82, 83, 84, 85, 86, 87, 88, 89, 90, 91, 92, 93, 94, 95, 96, 97, 98, 99, 100, 101, 102] (by decide +kernel) (by decide +kernel)
set_option maxRecDepth 20000 in
theorem gX2_worst_X2_sizeUpper : GoodIn wsX2_worst (wsV RX2 118 RX2 yX2_sizeUpper wsX2_sizeUpper) := goodIn_app (goodIn_of _ (by decide +kernel)) ggX2_worst_X2_sizeUpper
theorem dX2_worst_0 : decode cX2_worst 0 = .ok (.iload_n 1, 1) := by decide +kernel
theorem dX2_worst_1 : decode cX2_worst 1 = .ok (.iconst 0, 1) := by decide +kernel
theorem dX2_worst_2 : decode cX2_worst 2 = .ok (.iconst 1, 1) := by decide +kernel
theorem dX2_worst_3 : decode cX2_worst 3 = .ok (.invokestatic 57, 3) := by decide +kernel
theorem dX2_worst_6 : decode cX2_worst 6 = .ok (.ifCond .ne 6, 3) := by decide +kernel
theorem dX2_worst_9 : decode cX2_worst 9 = .ok (.bipush (-2), 2) := by decide +kernel
theorem dX2_worst_11 : decode cX2_worst 11 = .ok (.ireturn, 1) := by decide +kernel
theorem dX2_worst_12 : decode cX2_worst 12 = .ok (.aload_n 0, 1) := by decide +kernel
theorem dX2_worst_13 : decode cX2_worst 13 = .ok (.invokevirtual 76, 3) := by decide +kernel
theorem dX2_worst_16 : decode cX2_worst 16 = .ok (.aload_n 0, 1) := by decide +kernel
theorem dX2_worst_17 : decode cX2_worst 17 = .ok (.getfield 29, 3) := by decide +kernel
theorem dX2_worst_20 : decode cX2_worst 20 = .ok (.invokevirtual 79, 3) := by decide +kernel
theorem dX2_worst_23 : decode cX2_worst 23 = .ok (.ifCond .eq 6, 3) := by decide +kernel
theorem dX2_worst_26 : decode cX2_worst 26 = .ok (.bipush (-5), 2) := by decide +kernel
theorem dX2_worst_28 : decode cX2_worst 28 = .ok (.ireturn, 1) := by decide +kernel
theorem dX2_worst_29 : decode cX2_worst 29 = .ok (.aload_n 0, 1) := by decide +kernel
theorem dX2_worst_30 : decode cX2_worst 30 = .ok (.invokevirtual 114, 3) := by decide +kernel
theorem dX2_worst_33 : decode cX2_worst 33 = .ok (.istore_n 2, 1) := by decide +kernel
theorem dX2_worst_34 : decode cX2_worst 34 = .ok (.iload_n 1, 1) := by decide +kernel
theorem dX2_worst_35 : decode cX2_worst 35 = .ok (.ifCond .ne 5, 3) := by decide +kernel
theorem dX2_worst_38 : decode cX2_worst 38 = .ok (.iload_n 2, 1) := by decide +kernel
theorem dX2_worst_39 : decode cX2_worst 39 = .ok (.ireturn, 1) := by decide +kernel
theorem dX2_worst_40 : decode cX2_worst 40 = .ok (.aload_n 0, 1) := by decide +kernel
theorem dX2_worst_41 : decode cX2_worst 41 = .ok (.getfield 29, 3) := by decide +kernel
theorem dX2_worst_44 : decode cX2_worst 44 = .ok (.invokevirtual 89, 3) := by decide +kernel
theorem dX2_worst_47 : decode cX2_worst 47 = .ok (.lstore_n 3, 1) := by decide +kernel
theorem dX2_worst_48 : decode cX2_worst 48 = .ok (.lload_n 3, 1) := by decide +kernel
theorem dX2_worst_49 : decode cX2_worst 49 = .ok (.lconst 0, 1) := by decide +kernel
theorem dX2_worst_50 : decode cX2_worst 50 = .ok (.lcmp, 1) := by decide +kernel
theorem dX2_worst_51 : decode cX2_worst 51 = .ok (.ifCond .le 18, 3) := by decide +kernel
theorem dX2_worst_54 : decode cX2_worst 54 = .ok (.aload_n 0, 1) := by decide +kernel
theorem dX2_worst_55 : decode cX2_worst 55 = .ok (.aload_n 0, 1) := by decide +kernel
theorem dX2_worst_56 : decode cX2_worst 56 = .ok (.getfield 29, 3) := by decide +kernel
theorem dX2_worst_59 : decode cX2_worst 59 = .ok (.iload_n 2, 1) := by decide +kernel
theorem dX2_worst_60 : decode cX2_worst 60 = .ok (.invokevirtual 118, 3) := by decide +kernel
theorem dX2_worst_63 : decode cX2_worst 63 = .ok (.lload_n 3, 1) := by decide +kernel
theorem dX2_worst_64 : decode cX2_worst 64 = .ok (.ldiv, 1) := by decide +kernel
theorem dX2_worst_65 : decode cX2_worst 65 = .ok (.l2i, 1) := by decide +kernel
theorem dX2_worst_66 : decode cX2_worst 66 = .ok (.goto 4, 3) := by decide +kernel
theorem dX2_worst_69 : decode cX2_worst 69 = .ok (.iconst 0, 1) := by decide +kernel
theorem dX2_worst_70 : decode cX2_worst 70 = .ok (.ireturn, 1) := by decide +kernel
set_option maxRecDepth 20000 in
theorem ggX2_need_X2_isBetween : GoodIn wsX2_need wsX2_isBetween := goodIn_r _ [6] (by decide +kernel) (by decide +kernel)
set_option maxRecDepth 20000 in
theorem gX2_need_X2_isBetween : GoodIn wsX2_need (va_wsS RX2 57 yX2_isBetween wsX2_isBetween) := goodIn_app (goodIn_of _ (by decide +kernel)) ggX2_need_X2_isBetween
theorem dX2_need_0 : decode cX2_need 0 = .ok (.iload_n 1, 1) := by decide +kernel
theorem dX2_need_1 : decode cX2_need 1 = .ok (.iconst 1, 1) := by decide +kernel
theorem dX2_need_2 : decode cX2_need 2 = .ok (.bipush 8, 2) := by decide +kernel
theorem dX2_need_4 : decode cX2_need 4 = .ok (.invokestatic 57, 3) := by decide +kernel
theorem dX2_need_7 : decode cX2_need 7 = .ok (.ifCond .ne 6, 3) := by decide +kernel
theorem dX2_need_10 : decode cX2_need 10 = .ok (.bipush (-2), 2) := by decide +kernel
theorem dX2_need_12 : decode cX2_need 12 = .ok (.ireturn, 1) := by decide +kernel
theorem dX2_need_13 : decode cX2_need 13 = .ok (.aload_n 0, 1) := by decide +kernel
theorem dX2_need_14 : decode cX2_need 14 = .ok (.getfield 12, 3) := by decide +kernel
theorem dX2_need_17 : decode cX2_need 17 = .ok (.getfield 122, 3) := by decide +kernel
theorem dX2_need_20 : decode cX2_need 20 = .ok (.istore_n 2, 1) := by decide +kernel
theorem dX2_need_21 : decode cX2_need 21 = .ok (.aload_n 0, 1) := by decide +kernel
theorem dX2_need_22 : decode cX2_need 22 = .ok (.getfield 12, 3) := by decide +kernel
theorem dX2_need_25 : decode cX2_need 25 = .ok (.iload_n 1, 1) := by decide +kernel
theorem dX2_need_26 : decode cX2_need 26 = .ok (.putfield 122, 3) := by decide +kernel
theorem dX2_need_29 : decode cX2_need 29 = .ok (.iload_n 2, 1) := by decide +kernel
theorem dX2_need_30 : decode cX2_need 30 = .ok (.ireturn, 1) := by decide +kernel
set_option maxRecDepth 20000 in
theorem ggX2_cover_X2_layTheRound : GoodIn wsX2_cover wsX2_layTheRound := goodIn_r _ [6, 1, 7, 8, 9, 10, 11, 5, 12, 13, 14, 15, 16, 17, 18, 19, 20, 21, 22, 23, 24, 25, 26, 27, 28, 29, 30, 31, 32, 33, 34, 35, 36, 37, 38, 39, 40, 41, 42, 43, 44, 45, 65, 66, 67, 68, 69, 70, 71, 72, 73, 74, 75, 76, 77, 78, 79, 80, 81, 82, 83, 84, 85, 86, 87, 88] (by decide +kernel) (by decide +kernel)
set_option maxRecDepth 20000 in
theorem gX2_cover_X2_layTheRound : GoodIn wsX2_cover (wsV RX2 76 RX2 yX2_layTheRound wsX2_layTheRound) := goodIn_app (goodIn_of _ (by decide +kernel)) ggX2_cover_X2_layTheRound
set_option maxRecDepth 20000 in
theorem ggX2_cover_X0_isFlat : GoodIn wsX2_cover wsX0_isFlat := goodIn_r _ [49, 42, 76, 77, 78, 79, 80, 81, 82, 83, 84, 85, 86, 87, 88] (by decide +kernel) (by decide +kernel)
set_option maxRecDepth 20000 in
theorem gX2_cover_X0_isFlat : GoodIn wsX2_cover (wsV RX2 79 RX0 yX0_isFlat wsX0_isFlat) := goodIn_app (goodIn_of _ (by decide +kernel)) ggX2_cover_X0_isFlat
set_option maxRecDepth 20000 in
theorem ggX2_cover_X2_coverBy : GoodIn wsX2_cover wsX2_coverBy := goodIn_r _ [53, 7, 8, 13, 14, 29, 30, 5, 31, 54, 55, 56, 18, 57, 58, 42, 43, 44, 59, 60, 61, 62, 63, 64, 65, 66, 67, 68, 69, 70, 71, 72, 73, 74, 75, 76, 77, 78, 79, 80, 81, 82, 83, 84, 85, 86, 87, 88] (by decide +kernel) (by decide +kernel)
set_option maxRecDepth 20000 in
theorem gX2_cover_X2_coverBy : GoodIn wsX2_cover (wsV RX2 125 RX2 yX2_coverBy wsX2_coverBy) := goodIn_app (goodIn_of _ (by decide +kernel)) ggX2_cover_X2_coverBy
theorem dX2_cover_0 : decode cX2_cover 0 = .ok (.aload_n 0, 1) := by decide +kernel
theorem dX2_cover_1 : decode cX2_cover 1 = .ok (.invokevirtual 76, 3) := by decide +kernel
theorem dX2_cover_4 : decode cX2_cover 4 = .ok (.aload_n 0, 1) := by decide +kernel
theorem dX2_cover_5 : decode cX2_cover 5 = .ok (.getfield 29, 3) := by decide +kernel
theorem dX2_cover_8 : decode cX2_cover 8 = .ok (.invokevirtual 79, 3) := by decide +kernel
theorem dX2_cover_11 : decode cX2_cover 11 = .ok (.ifCond .eq 8, 3) := by decide +kernel
theorem dX2_cover_14 : decode cX2_cover 14 = .ok (.bipush (-5), 2) := by decide +kernel
theorem dX2_cover_16 : decode cX2_cover 16 = .ok (.goto 11, 3) := by decide +kernel
theorem dX2_cover_19 : decode cX2_cover 19 = .ok (.aload_n 0, 1) := by decide +kernel
theorem dX2_cover_20 : decode cX2_cover 20 = .ok (.aload_n 0, 1) := by decide +kernel
theorem dX2_cover_21 : decode cX2_cover 21 = .ok (.getfield 29, 3) := by decide +kernel
theorem dX2_cover_24 : decode cX2_cover 24 = .ok (.invokevirtual 125, 3) := by decide +kernel
theorem dX2_cover_27 : decode cX2_cover 27 = .ok (.ireturn, 1) := by decide +kernel
set_option maxRecDepth 20000 in
theorem ggX2_poor_X2_layTheRound : GoodIn wsX2_poor wsX2_layTheRound := goodIn_r _ [5, 6, 7, 8, 9, 10, 11, 4, 12, 13, 14, 15, 16, 17, 18, 19, 20, 21, 22, 23, 24, 25, 26, 27, 28, 29, 30, 31, 32, 33, 34, 35, 36, 37, 38, 39, 40, 41, 42, 43, 44, 45, 77, 78, 79, 80, 81, 82, 83, 84, 85, 86, 87, 88, 89, 90, 91, 92, 93, 94, 95, 96, 97, 98, 99, 100] (by decide +kernel) (by decide +kernel)
set_option maxRecDepth 20000 in
theorem gX2_poor_X2_layTheRound : GoodIn wsX2_poor (wsV RX2 76 RX2 yX2_layTheRound wsX2_layTheRound) := goodIn_app (goodIn_of _ (by decide +kernel)) ggX2_poor_X2_layTheRound
set_option maxRecDepth 20000 in
theorem ggX2_poor_X2_isTheRoundPoor : GoodIn wsX2_poor wsX2_isTheRoundPoor := goodIn_r _ [49, 6, 7, 50, 51, 52, 53, 18, 54, 42, 55, 56, 57, 4, 58, 8, 13, 14, 29, 30, 31, 59, 60, 61, 62, 63, 43, 44, 64, 65, 66, 67, 68, 69, 70, 71, 72, 73, 74, 75, 76, 77, 78, 79, 80, 81, 82, 83, 84, 85, 86, 87, 88, 89, 90, 91, 92, 93, 94, 95, 96, 97, 98, 99, 100] (by decide +kernel) (by decide +kernel)
set_option maxRecDepth 20000 in
theorem gX2_poor_X2_isTheRoundPoor : GoodIn wsX2_poor (wsV RX2 129 RX2 yX2_isTheRoundPoor wsX2_isTheRoundPoor) := goodIn_app (goodIn_of _ (by decide +kernel)) ggX2_poor_X2_isTheRoundPoor
theorem dX2_poor_0 : decode cX2_poor 0 = .ok (.aload_n 0, 1) := by decide +kernel
theorem dX2_poor_1 : decode cX2_poor 1 = .ok (.invokevirtual 76, 3) := by decide +kernel
theorem dX2_poor_4 : decode cX2_poor 4 = .ok (.aload_n 0, 1) := by decide +kernel
theorem dX2_poor_5 : decode cX2_poor 5 = .ok (.invokevirtual 129, 3) := by decide +kernel
theorem dX2_poor_8 : decode cX2_poor 8 = .ok (.ifCond .eq 7, 3) := by decide +kernel
theorem dX2_poor_11 : decode cX2_poor 11 = .ok (.iconst 1, 1) := by decide +kernel
theorem dX2_poor_12 : decode cX2_poor 12 = .ok (.goto 4, 3) := by decide +kernel
theorem dX2_poor_15 : decode cX2_poor 15 = .ok (.iconst 0, 1) := by decide +kernel
theorem dX2_poor_16 : decode cX2_poor 16 = .ok (.ireturn, 1) := by decide +kernel
set_option maxRecDepth 20000 in
theorem ggX2_eighth_X2_isSample : GoodIn wsX2_eighth wsX2_isSample := goodIn_r _ [9, 2, 10, 63, 64, 65, 66, 67, 68, 69, 70, 71, 72, 73] (by decide +kernel) (by decide +kernel)
set_option maxRecDepth 20000 in
theorem gX2_eighth_X2_isSample : GoodIn wsX2_eighth (wsV RX2 53 RX2 yX2_isSample wsX2_isSample) := goodIn_app (goodIn_of _ (by decide +kernel)) ggX2_eighth_X2_isSample
set_option maxRecDepth 20000 in
theorem ggX2_eighth_X2_layTheRound : GoodIn wsX2_eighth wsX2_layTheRound := goodIn_r _ [14, 1, 2, 15, 16, 17, 18, 8, 19, 3, 4, 20, 21, 22, 23, 24, 25, 26, 27, 28, 29, 30, 31, 32, 33, 34, 35, 36, 37, 38, 39, 40, 41, 42, 43, 44, 45, 46, 47, 48, 49, 50, 63, 64, 65, 66, 67, 68, 69, 70, 71, 72, 73, 74, 75, 76, 77, 78, 79, 80, 81, 82, 83, 84, 85, 86] (by decide +kernel) (by decide +kernel)
set_option maxRecDepth 20000 in
theorem gX2_eighth_X2_layTheRound : GoodIn wsX2_eighth (wsV RX2 76 RX2 yX2_layTheRound wsX2_layTheRound) := goodIn_app (goodIn_of _ (by decide +kernel)) ggX2_eighth_X2_layTheRound
set_option maxRecDepth 20000 in
theorem ggX2_eighth_X0_isFlat : GoodIn wsX2_eighth wsX0_isFlat := goodIn_r _ [54, 47, 74, 75, 76, 77, 78, 79, 80, 81, 82, 83, 84, 85, 86] (by decide +kernel) (by decide +kernel)
set_option maxRecDepth 20000 in
theorem gX2_eighth_X0_isFlat : GoodIn wsX2_eighth (wsV RX2 79 RX0 yX0_isFlat wsX0_isFlat) := goodIn_app (goodIn_of _ (by decide +kernel)) ggX2_eighth_X0_isFlat
set_option maxRecDepth 20000 in
theorem ggX2_eighth_X0_eighthAt : GoodIn wsX2_eighth wsX0_eighthAt := goodIn_r _ [58, 59, 47, 48, 49, 60, 61, 23, 62, 74, 75, 76, 77, 78, 79, 80, 81, 82, 83, 84, 85, 86] (by decide +kernel) (by decide +kernel)
set_option maxRecDepth 20000 in
theorem gX2_eighth_X0_eighthAt : GoodIn wsX2_eighth (wsV RX2 132 RX0 yX0_eighthAt wsX0_eighthAt) := goodIn_app (goodIn_of _ (by decide +kernel)) ggX2_eighth_X0_eighthAt
theorem dX2_eighth_0 : decode cX2_eighth 0 = .ok (.aload_n 0, 1) := by decide +kernel
theorem dX2_eighth_1 : decode cX2_eighth 1 = .ok (.iload_n 1, 1) := by decide +kernel
theorem dX2_eighth_2 : decode cX2_eighth 2 = .ok (.invokevirtual 53, 3) := by decide +kernel
theorem dX2_eighth_5 : decode cX2_eighth 5 = .ok (.ifCond .ne 5, 3) := by decide +kernel
theorem dX2_eighth_8 : decode cX2_eighth 8 = .ok (.iconst (-1), 1) := by decide +kernel
theorem dX2_eighth_9 : decode cX2_eighth 9 = .ok (.ireturn, 1) := by decide +kernel
theorem dX2_eighth_10 : decode cX2_eighth 10 = .ok (.aload_n 0, 1) := by decide +kernel
theorem dX2_eighth_11 : decode cX2_eighth 11 = .ok (.invokevirtual 76, 3) := by decide +kernel
theorem dX2_eighth_14 : decode cX2_eighth 14 = .ok (.aload_n 0, 1) := by decide +kernel
theorem dX2_eighth_15 : decode cX2_eighth 15 = .ok (.getfield 29, 3) := by decide +kernel
theorem dX2_eighth_18 : decode cX2_eighth 18 = .ok (.invokevirtual 79, 3) := by decide +kernel
theorem dX2_eighth_21 : decode cX2_eighth 21 = .ok (.ifCond .eq 8, 3) := by decide +kernel
theorem dX2_eighth_24 : decode cX2_eighth 24 = .ok (.bipush (-5), 2) := by decide +kernel
theorem dX2_eighth_26 : decode cX2_eighth 26 = .ok (.goto 28, 3) := by decide +kernel
theorem dX2_eighth_29 : decode cX2_eighth 29 = .ok (.aload_n 0, 1) := by decide +kernel
theorem dX2_eighth_30 : decode cX2_eighth 30 = .ok (.getfield 29, 3) := by decide +kernel
theorem dX2_eighth_33 : decode cX2_eighth 33 = .ok (.aload_n 0, 1) := by decide +kernel
theorem dX2_eighth_34 : decode cX2_eighth 34 = .ok (.getfield 12, 3) := by decide +kernel
theorem dX2_eighth_37 : decode cX2_eighth 37 = .ok (.getfield 43, 3) := by decide +kernel
theorem dX2_eighth_40 : decode cX2_eighth 40 = .ok (.iload_n 1, 1) := by decide +kernel
theorem dX2_eighth_41 : decode cX2_eighth 41 = .ok (.iaload, 1) := by decide +kernel
theorem dX2_eighth_42 : decode cX2_eighth 42 = .ok (.aload_n 0, 1) := by decide +kernel
theorem dX2_eighth_43 : decode cX2_eighth 43 = .ok (.getfield 12, 3) := by decide +kernel
theorem dX2_eighth_46 : decode cX2_eighth 46 = .ok (.getfield 47, 3) := by decide +kernel
theorem dX2_eighth_49 : decode cX2_eighth 49 = .ok (.iload_n 1, 1) := by decide +kernel
theorem dX2_eighth_50 : decode cX2_eighth 50 = .ok (.iaload, 1) := by decide +kernel
theorem dX2_eighth_51 : decode cX2_eighth 51 = .ok (.invokevirtual 132, 3) := by decide +kernel
theorem dX2_eighth_54 : decode cX2_eighth 54 = .ok (.ireturn, 1) := by decide +kernel
set_option maxRecDepth 20000 in
theorem ggX2_points_X2_isPlace : GoodIn wsX2_points wsX2_isPlace := goodIn_r _ [5, 6, 7, 4, 8] (by decide +kernel) (by decide +kernel)
set_option maxRecDepth 20000 in
theorem gX2_points_X2_isPlace : GoodIn wsX2_points (va_wsS RX2 36 yX2_isPlace wsX2_isPlace) := goodIn_app (goodIn_of _ (by decide +kernel)) ggX2_points_X2_isPlace
set_option maxRecDepth 20000 in
theorem ggX2_points_X2_layTheRound : GoodIn wsX2_points wsX2_layTheRound := goodIn_r _ [12, 1, 13, 14, 15, 16, 17, 4, 18, 19, 20, 21, 22, 23, 24, 25, 26, 27, 28, 29, 30, 31, 32, 33, 34, 35, 36, 37, 38, 39, 40, 41, 42, 43, 44, 45, 46, 47, 48, 49, 50, 51, 83, 84, 85, 86, 87, 88, 89, 90, 91, 92, 93, 94, 95, 96, 97, 98, 99, 100, 101, 102, 103, 104, 105, 106] (by decide +kernel) (by decide +kernel)
set_option maxRecDepth 20000 in
theorem gX2_points_X2_layTheRound : GoodIn wsX2_points (wsV RX2 76 RX2 yX2_layTheRound wsX2_layTheRound) := goodIn_app (goodIn_of _ (by decide +kernel)) ggX2_points_X2_layTheRound
set_option maxRecDepth 20000 in
theorem ggX2_points_X2_isTheRoundPoor : GoodIn wsX2_points wsX2_isTheRoundPoor := goodIn_r _ [55, 1, 13, 56, 57, 58, 59, 24, 60, 48, 61, 62, 63, 4, 64, 14, 19, 20, 35, 36, 37, 65, 66, 67, 68, 69, 49, 50, 70, 71, 72, 73, 74, 75, 76, 77, 78, 79, 80, 81, 82, 83, 84, 85, 86, 87, 88, 89, 90, 91, 92, 93, 94, 95, 96, 97, 98, 99, 100, 101, 102, 103, 104, 105, 106] (by decide +kernel) (by decide +kernel)
set_option maxRecDepth 20000 in
theorem gX2_points_X2_isTheRoundPoor : GoodIn wsX2_points (wsV RX2 129 RX2 yX2_isTheRoundPoor wsX2_isTheRoundPoor) := goodIn_app (goodIn_of _ (by decide +kernel)) ggX2_points_X2_isTheRoundPoor
set_option maxRecDepth 20000 in
theorem ggX2_points_X0_eighthAt : GoodIn wsX2_points wsX0_eighthAt := goodIn_r _ [68, 69, 48, 49, 50, 70, 71, 24, 72, 94, 95, 96, 97, 98, 99, 100, 101, 102, 103, 104, 105, 106] (by decide +kernel) (by decide +kernel)
set_option maxRecDepth 20000 in
theorem gX2_points_X0_eighthAt : GoodIn wsX2_points (wsV RX2 132 RX0 yX0_eighthAt wsX0_eighthAt) := goodIn_app (goodIn_of _ (by decide +kernel)) ggX2_points_X0_eighthAt
theorem dX2_points_0 : decode cX2_points 0 = .ok (.iload_n 1, 1) := by decide +kernel
theorem dX2_points_1 : decode cX2_points 1 = .ok (.iload_n 2, 1) := by decide +kernel
theorem dX2_points_2 : decode cX2_points 2 = .ok (.invokestatic 36, 3) := by decide +kernel
theorem dX2_points_5 : decode cX2_points 5 = .ok (.ifCond .ne 6, 3) := by decide +kernel
theorem dX2_points_8 : decode cX2_points 8 = .ok (.bipush (-2), 2) := by decide +kernel
theorem dX2_points_10 : decode cX2_points 10 = .ok (.ireturn, 1) := by decide +kernel
theorem dX2_points_11 : decode cX2_points 11 = .ok (.aload_n 0, 1) := by decide +kernel
theorem dX2_points_12 : decode cX2_points 12 = .ok (.invokevirtual 76, 3) := by decide +kernel
theorem dX2_points_15 : decode cX2_points 15 = .ok (.aload_n 0, 1) := by decide +kernel
theorem dX2_points_16 : decode cX2_points 16 = .ok (.invokevirtual 129, 3) := by decide +kernel
theorem dX2_points_19 : decode cX2_points 19 = .ok (.ifCond .eq 8, 3) := by decide +kernel
theorem dX2_points_22 : decode cX2_points 22 = .ok (.bipush (-5), 2) := by decide +kernel
theorem dX2_points_24 : decode cX2_points 24 = .ok (.goto 12, 3) := by decide +kernel
theorem dX2_points_27 : decode cX2_points 27 = .ok (.aload_n 0, 1) := by decide +kernel
theorem dX2_points_28 : decode cX2_points 28 = .ok (.getfield 29, 3) := by decide +kernel
theorem dX2_points_31 : decode cX2_points 31 = .ok (.iload_n 1, 1) := by decide +kernel
theorem dX2_points_32 : decode cX2_points 32 = .ok (.iload_n 2, 1) := by decide +kernel
theorem dX2_points_33 : decode cX2_points 33 = .ok (.invokevirtual 132, 3) := by decide +kernel
theorem dX2_points_36 : decode cX2_points 36 = .ok (.ireturn, 1) := by decide +kernel
set_option maxRecDepth 20000 in
theorem ggX2_helps_J6_bitCount_0f7a4 : GoodIn wsX2_helps wsJ6_bitCount_0f7a4 := goodIn_r _ [9, 10, 11, 12] (by decide +kernel) (by decide +kernel)
set_option maxRecDepth 20000 in
theorem gX2_helps_J6_bitCount_0f7a4 : GoodIn wsX2_helps (va_wsS RX2 61 yJ6_bitCount_0f7a4 wsJ6_bitCount_0f7a4) := goodIn_app (goodIn_of _ (by decide +kernel)) ggX2_helps_J6_bitCount_0f7a4
set_option maxRecDepth 20000 in
theorem ggX2_helps_X2_sumUp : GoodIn wsX2_helps wsX2_sumUp := goodIn_r _ [17, 1, 18, 19, 20, 21, 22, 23, 24, 25, 26, 27, 28, 29, 30, 31, 32, 33, 34, 35, 16, 36, 37, 38, 39, 40, 41, 42, 79, 80, 81, 82, 83, 84, 85, 86, 87, 88, 89, 90, 91, 92, 93, 94, 95, 96, 97, 98, 99, 100, 101, 102] (by decide +kernel) (by decide +kernel)
set_option maxRecDepth 20000 in
theorem gX2_helps_X2_sumUp : GoodIn wsX2_helps (wsV RX2 135 RX2 yX2_sumUp wsX2_sumUp) := goodIn_app (goodIn_of _ (by decide +kernel)) ggX2_helps_X2_sumUp
set_option maxRecDepth 20000 in
theorem ggX2_helps_X2_helpAt : GoodIn wsX2_helps wsX2_helpAt := goodIn_r _ [46, 47, 5, 1, 4, 48, 49, 50, 23, 51, 25, 26, 27, 28, 29, 30, 31, 32, 33, 37, 38, 39, 40, 41, 16, 42, 52, 53, 54, 55, 56, 57, 58, 59, 60, 61, 62, 63, 64, 65, 66, 67, 68, 69, 70, 71, 72, 73, 74, 75, 76, 77, 78, 3, 18, 19, 34, 35, 36, 6, 7, 8, 9, 10, 11, 12, 79, 80, 81, 82, 83, 84, 85, 86, 87, 88, 89, 90, 91, 92, 93, 94, 95, 96, 97, 98, 99, 100, 101, 102] (by decide +kernel) (by decide +kernel)
set_option maxRecDepth 20000 in
theorem gX2_helps_X2_helpAt : GoodIn wsX2_helps (wsV RX2 139 RX2 yX2_helpAt wsX2_helpAt) := goodIn_app (goodIn_of _ (by decide +kernel)) ggX2_helps_X2_helpAt
theorem dX2_helps_0 : decode cX2_helps 0 = .ok (.aload_n 0, 1) := by decide +kernel
theorem dX2_helps_1 : decode cX2_helps 1 = .ok (.getfield 12, 3) := by decide +kernel
theorem dX2_helps_4 : decode cX2_helps 4 = .ok (.getfield 40, 3) := by decide +kernel
theorem dX2_helps_7 : decode cX2_helps 7 = .ok (.bipush 10, 2) := by decide +kernel
theorem dX2_helps_9 : decode cX2_helps 9 = .ok (.if_icmp .ge 25, 3) := by decide +kernel
theorem dX2_helps_12 : decode cX2_helps 12 = .ok (.aload_n 0, 1) := by decide +kernel
theorem dX2_helps_13 : decode cX2_helps 13 = .ok (.getfield 12, 3) := by decide +kernel
theorem dX2_helps_16 : decode cX2_helps 16 = .ok (.getfield 50, 3) := by decide +kernel
theorem dX2_helps_19 : decode cX2_helps 19 = .ok (.invokestatic 61, 3) := by decide +kernel
theorem dX2_helps_22 : decode cX2_helps 22 = .ok (.iconst 1, 1) := by decide +kernel
theorem dX2_helps_23 : decode cX2_helps 23 = .ok (.iadd, 1) := by decide +kernel
theorem dX2_helps_24 : decode cX2_helps 24 = .ok (.aload_n 0, 1) := by decide +kernel
theorem dX2_helps_25 : decode cX2_helps 25 = .ok (.getfield 12, 3) := by decide +kernel
theorem dX2_helps_28 : decode cX2_helps 28 = .ok (.getfield 122, 3) := by decide +kernel
theorem dX2_helps_31 : decode cX2_helps 31 = .ok (.if_icmp .ge 5, 3) := by decide +kernel
theorem dX2_helps_34 : decode cX2_helps 34 = .ok (.iconst 0, 1) := by decide +kernel
theorem dX2_helps_35 : decode cX2_helps 35 = .ok (.ireturn, 1) := by decide +kernel
theorem dX2_helps_36 : decode cX2_helps 36 = .ok (.aload_n 0, 1) := by decide +kernel
theorem dX2_helps_37 : decode cX2_helps 37 = .ok (.aload_n 0, 1) := by decide +kernel
theorem dX2_helps_38 : decode cX2_helps 38 = .ok (.getfield 29, 3) := by decide +kernel
theorem dX2_helps_41 : decode cX2_helps 41 = .ok (.aload_n 0, 1) := by decide +kernel
theorem dX2_helps_42 : decode cX2_helps 42 = .ok (.getfield 12, 3) := by decide +kernel
theorem dX2_helps_45 : decode cX2_helps 45 = .ok (.getfield 50, 3) := by decide +kernel
theorem dX2_helps_48 : decode cX2_helps 48 = .ok (.invokevirtual 135, 3) := by decide +kernel
theorem dX2_helps_51 : decode cX2_helps 51 = .ok (.iconst 0, 1) := by decide +kernel
theorem dX2_helps_52 : decode cX2_helps 52 = .ok (.istore_n 1, 1) := by decide +kernel
theorem dX2_helps_53 : decode cX2_helps 53 = .ok (.bipush (-40), 2) := by decide +kernel
theorem dX2_helps_55 : decode cX2_helps 55 = .ok (.istore_n 2, 1) := by decide +kernel
theorem dX2_helps_56 : decode cX2_helps 56 = .ok (.iload_n 2, 1) := by decide +kernel
theorem dX2_helps_57 : decode cX2_helps 57 = .ok (.bipush 40, 2) := by decide +kernel
theorem dX2_helps_59 : decode cX2_helps 59 = .ok (.if_icmp .gt 41, 3) := by decide +kernel
theorem dX2_helps_62 : decode cX2_helps 62 = .ok (.bipush (-40), 2) := by decide +kernel
theorem dX2_helps_64 : decode cX2_helps 64 = .ok (.istore_n 3, 1) := by decide +kernel
theorem dX2_helps_65 : decode cX2_helps 65 = .ok (.iload_n 3, 1) := by decide +kernel
theorem dX2_helps_66 : decode cX2_helps 66 = .ok (.bipush 40, 2) := by decide +kernel
theorem dX2_helps_68 : decode cX2_helps 68 = .ok (.if_icmp .gt 26, 3) := by decide +kernel
theorem dX2_helps_71 : decode cX2_helps 71 = .ok (.iload_n 1, 1) := by decide +kernel
theorem dX2_helps_72 : decode cX2_helps 72 = .ok (.sipush 255, 3) := by decide +kernel
theorem dX2_helps_75 : decode cX2_helps 75 = .ok (.if_icmp .eq 19, 3) := by decide +kernel
theorem dX2_helps_78 : decode cX2_helps 78 = .ok (.iload_n 1, 1) := by decide +kernel
theorem dX2_helps_79 : decode cX2_helps 79 = .ok (.aload_n 0, 1) := by decide +kernel
theorem dX2_helps_80 : decode cX2_helps 80 = .ok (.iload_n 2, 1) := by decide +kernel
theorem dX2_helps_81 : decode cX2_helps 81 = .ok (.iload_n 3, 1) := by decide +kernel
theorem dX2_helps_82 : decode cX2_helps 82 = .ok (.iload_n 1, 1) := by decide +kernel
theorem dX2_helps_83 : decode cX2_helps 83 = .ok (.invokevirtual 139, 3) := by decide +kernel
theorem dX2_helps_86 : decode cX2_helps 86 = .ok (.ior, 1) := by decide +kernel
theorem dX2_helps_87 : decode cX2_helps 87 = .ok (.istore_n 1, 1) := by decide +kernel
theorem dX2_helps_88 : decode cX2_helps 88 = .ok (.iinc 3 1, 3) := by decide +kernel
theorem dX2_helps_91 : decode cX2_helps 91 = .ok (.goto (-26), 3) := by decide +kernel
theorem dX2_helps_94 : decode cX2_helps 94 = .ok (.iinc 2 1, 3) := by decide +kernel
theorem dX2_helps_97 : decode cX2_helps 97 = .ok (.goto (-41), 3) := by decide +kernel
theorem dX2_helps_100 : decode cX2_helps 100 = .ok (.iload_n 1, 1) := by decide +kernel
theorem dX2_helps_101 : decode cX2_helps 101 = .ok (.ireturn, 1) := by decide +kernel
set_option maxRecDepth 20000 in
theorem ggX2_trim_X2_isBetween : GoodIn wsX2_trim wsX2_isBetween := goodIn_r _ [7] (by decide +kernel) (by decide +kernel)
set_option maxRecDepth 20000 in
theorem gX2_trim_X2_isBetween : GoodIn wsX2_trim (va_wsS RX2 57 yX2_isBetween wsX2_isBetween) := goodIn_app (goodIn_of _ (by decide +kernel)) ggX2_trim_X2_isBetween
set_option maxRecDepth 20000 in
theorem ggX2_trim_X2_layTheRound : GoodIn wsX2_trim wsX2_layTheRound := goodIn_r _ [11, 1, 2, 3, 12, 13, 14, 6, 15, 16, 17, 18, 19, 20, 21, 22, 23, 24, 25, 26, 27, 28, 29, 30, 31, 32, 33, 34, 35, 36, 37, 38, 39, 40, 41, 42, 43, 44, 45, 46, 47, 48, 94, 95, 96, 97, 98, 99, 100, 101, 102, 103, 104, 105, 106, 107, 108, 109, 110, 111, 112, 113, 114, 115, 116, 117] (by decide +kernel) (by decide +kernel)
set_option maxRecDepth 20000 in
theorem gX2_trim_X2_layTheRound : GoodIn wsX2_trim (wsV RX2 76 RX2 yX2_layTheRound wsX2_layTheRound) := goodIn_app (goodIn_of _ (by decide +kernel)) ggX2_trim_X2_layTheRound
set_option maxRecDepth 20000 in
theorem ggX2_trim_X0_isFlat : GoodIn wsX2_trim wsX0_isFlat := goodIn_r _ [52, 45, 105, 106, 107, 108, 109, 110, 111, 112, 113, 114, 115, 116, 117] (by decide +kernel) (by decide +kernel)
set_option maxRecDepth 20000 in
theorem gX2_trim_X0_isFlat : GoodIn wsX2_trim (wsV RX2 79 RX0 yX0_isFlat wsX0_isFlat) := goodIn_app (goodIn_of _ (by decide +kernel)) ggX2_trim_X0_isFlat
set_option maxRecDepth 20000 in
theorem ggX2_trim_J6_bitCount_0f7a4 : GoodIn wsX2_trim wsJ6_bitCount_0f7a4 := goodIn_r _ [56, 57, 58, 59] (by decide +kernel) (by decide +kernel)
set_option maxRecDepth 20000 in
theorem gX2_trim_J6_bitCount_0f7a4 : GoodIn wsX2_trim (va_wsS RX2 61 yJ6_bitCount_0f7a4 wsJ6_bitCount_0f7a4) := goodIn_app (goodIn_of _ (by decide +kernel)) ggX2_trim_J6_bitCount_0f7a4
set_option maxRecDepth 20000 in
theorem ggX2_trim_X2_isToTrim : GoodIn wsX2_trim wsX2_isToTrim := goodIn_r _ [63, 2, 3, 1, 53, 54, 55, 56, 57, 58, 59, 49, 50, 51, 21, 52, 45, 64, 65, 66, 6, 67, 68, 32, 33, 34, 69, 70, 71, 72, 16, 17, 73, 74, 75, 76, 77, 78, 79, 80, 81, 82, 83, 84, 85, 23, 46, 47, 48, 39, 40, 86, 87, 88, 89, 90, 91, 92, 93, 94, 95, 96, 97, 98, 99, 100, 101, 102, 103, 104, 105, 106, 107, 108, 109, 110, 111, 112, 113, 114, 115, 116, 117] (by decide +kernel) (by decide +kernel)
set_option maxRecDepth 20000 in
theorem gX2_trim_X2_isToTrim : GoodIn wsX2_trim (wsV RX2 143 RX2 yX2_isToTrim wsX2_isToTrim) := goodIn_app (goodIn_of _ (by decide +kernel)) ggX2_trim_X2_isToTrim
set_option maxRecDepth 20000 in
theorem ggX2_trim_X2_worstSample : GoodIn wsX2_trim wsX2_worstSample := goodIn_r _ [67, 68, 2, 3, 1, 32, 33, 6, 34, 69, 70, 71, 72, 16, 17, 73, 74, 75, 76, 77, 78, 79, 80, 81, 82, 83, 84, 21, 85, 23, 45, 46, 47, 48, 39, 40, 94, 95, 96, 97, 98, 99, 100, 101, 102, 103, 104, 105, 106, 107, 108, 109, 110, 111, 112, 113, 114, 115, 116, 117] (by decide +kernel) (by decide +kernel)
set_option maxRecDepth 20000 in
theorem gX2_trim_X2_worstSample : GoodIn wsX2_trim (wsV RX2 114 RX2 yX2_worstSample wsX2_worstSample) := goodIn_app (goodIn_of _ (by decide +kernel)) ggX2_trim_X2_worstSample
theorem dX2_trim_0 : decode cX2_trim 0 = .ok (.iload_n 1, 1) := by decide +kernel
theorem dX2_trim_1 : decode cX2_trim 1 = .ok (.iconst 0, 1) := by decide +kernel
theorem dX2_trim_2 : decode cX2_trim 2 = .ok (.sipush 9999, 3) := by decide +kernel
theorem dX2_trim_5 : decode cX2_trim 5 = .ok (.invokestatic 57, 3) := by decide +kernel
theorem dX2_trim_8 : decode cX2_trim 8 = .ok (.ifCond .ne 6, 3) := by decide +kernel
theorem dX2_trim_11 : decode cX2_trim 11 = .ok (.bipush (-2), 2) := by decide +kernel
theorem dX2_trim_13 : decode cX2_trim 13 = .ok (.ireturn, 1) := by decide +kernel
theorem dX2_trim_14 : decode cX2_trim 14 = .ok (.aload_n 0, 1) := by decide +kernel
theorem dX2_trim_15 : decode cX2_trim 15 = .ok (.invokevirtual 76, 3) := by decide +kernel
theorem dX2_trim_18 : decode cX2_trim 18 = .ok (.aload_n 0, 1) := by decide +kernel
theorem dX2_trim_19 : decode cX2_trim 19 = .ok (.getfield 29, 3) := by decide +kernel
theorem dX2_trim_22 : decode cX2_trim 22 = .ok (.invokevirtual 79, 3) := by decide +kernel
theorem dX2_trim_25 : decode cX2_trim 25 = .ok (.ifCond .eq 6, 3) := by decide +kernel
theorem dX2_trim_28 : decode cX2_trim 28 = .ok (.bipush (-5), 2) := by decide +kernel
theorem dX2_trim_30 : decode cX2_trim 30 = .ok (.ireturn, 1) := by decide +kernel
theorem dX2_trim_31 : decode cX2_trim 31 = .ok (.aload_n 0, 1) := by decide +kernel
theorem dX2_trim_32 : decode cX2_trim 32 = .ok (.getfield 12, 3) := by decide +kernel
theorem dX2_trim_35 : decode cX2_trim 35 = .ok (.getfield 50, 3) := by decide +kernel
theorem dX2_trim_38 : decode cX2_trim 38 = .ok (.invokestatic 61, 3) := by decide +kernel
theorem dX2_trim_41 : decode cX2_trim 41 = .ok (.istore_n 2, 1) := by decide +kernel
theorem dX2_trim_42 : decode cX2_trim 42 = .ok (.iconst 0, 1) := by decide +kernel
theorem dX2_trim_43 : decode cX2_trim 43 = .ok (.istore_n 3, 1) := by decide +kernel
theorem dX2_trim_44 : decode cX2_trim 44 = .ok (.iload_n 3, 1) := by decide +kernel
theorem dX2_trim_45 : decode cX2_trim 45 = .ok (.bipush 10, 2) := by decide +kernel
theorem dX2_trim_47 : decode cX2_trim 47 = .ok (.if_icmp .ge 41, 3) := by decide +kernel
theorem dX2_trim_50 : decode cX2_trim 50 = .ok (.aload_n 0, 1) := by decide +kernel
theorem dX2_trim_51 : decode cX2_trim 51 = .ok (.iload_n 1, 1) := by decide +kernel
theorem dX2_trim_52 : decode cX2_trim 52 = .ok (.invokevirtual 143, 3) := by decide +kernel
theorem dX2_trim_55 : decode cX2_trim 55 = .ok (.ifCond .eq 33, 3) := by decide +kernel
theorem dX2_trim_58 : decode cX2_trim 58 = .ok (.aload_n 0, 1) := by decide +kernel
theorem dX2_trim_59 : decode cX2_trim 59 = .ok (.getfield 12, 3) := by decide +kernel
theorem dX2_trim_62 : decode cX2_trim 62 = .ok (.dup, 1) := by decide +kernel
theorem dX2_trim_63 : decode cX2_trim 63 = .ok (.getfield 50, 3) := by decide +kernel
theorem dX2_trim_66 : decode cX2_trim 66 = .ok (.iconst 1, 1) := by decide +kernel
theorem dX2_trim_67 : decode cX2_trim 67 = .ok (.aload_n 0, 1) := by decide +kernel
theorem dX2_trim_68 : decode cX2_trim 68 = .ok (.invokevirtual 114, 3) := by decide +kernel
theorem dX2_trim_71 : decode cX2_trim 71 = .ok (.ishl, 1) := by decide +kernel
theorem dX2_trim_72 : decode cX2_trim 72 = .ok (.iconst (-1), 1) := by decide +kernel
theorem dX2_trim_73 : decode cX2_trim 73 = .ok (.ixor, 1) := by decide +kernel
theorem dX2_trim_74 : decode cX2_trim 74 = .ok (.iand, 1) := by decide +kernel
theorem dX2_trim_75 : decode cX2_trim 75 = .ok (.putfield 50, 3) := by decide +kernel
theorem dX2_trim_78 : decode cX2_trim 78 = .ok (.aload_n 0, 1) := by decide +kernel
theorem dX2_trim_79 : decode cX2_trim 79 = .ok (.invokevirtual 76, 3) := by decide +kernel
theorem dX2_trim_82 : decode cX2_trim 82 = .ok (.iinc 3 1, 3) := by decide +kernel
theorem dX2_trim_85 : decode cX2_trim 85 = .ok (.goto (-41), 3) := by decide +kernel
theorem dX2_trim_88 : decode cX2_trim 88 = .ok (.iload_n 2, 1) := by decide +kernel
theorem dX2_trim_89 : decode cX2_trim 89 = .ok (.aload_n 0, 1) := by decide +kernel
theorem dX2_trim_90 : decode cX2_trim 90 = .ok (.getfield 12, 3) := by decide +kernel
theorem dX2_trim_93 : decode cX2_trim 93 = .ok (.getfield 50, 3) := by decide +kernel
theorem dX2_trim_96 : decode cX2_trim 96 = .ok (.invokestatic 61, 3) := by decide +kernel
theorem dX2_trim_99 : decode cX2_trim 99 = .ok (.isub, 1) := by decide +kernel
theorem dX2_trim_100 : decode cX2_trim 100 = .ok (.ireturn, 1) := by decide +kernel
set_option maxRecDepth 20000 in
theorem ggX2_fewest_X2_isBetween : GoodIn wsX2_fewest wsX2_isBetween := goodIn_r _ [6] (by decide +kernel) (by decide +kernel)
set_option maxRecDepth 20000 in
theorem gX2_fewest_X2_isBetween : GoodIn wsX2_fewest (va_wsS RX2 57 yX2_isBetween wsX2_isBetween) := goodIn_app (goodIn_of _ (by decide +kernel)) ggX2_fewest_X2_isBetween
set_option maxRecDepth 20000 in
theorem ggX2_fewest_J6_bitCount_0f7a4 : GoodIn wsX2_fewest wsJ6_bitCount_0f7a4 := goodIn_r _ [10, 11, 12, 13] (by decide +kernel) (by decide +kernel)
set_option maxRecDepth 20000 in
theorem gX2_fewest_J6_bitCount_0f7a4 : GoodIn wsX2_fewest (va_wsS RX2 61 yJ6_bitCount_0f7a4 wsJ6_bitCount_0f7a4) := goodIn_app (goodIn_of _ (by decide +kernel)) ggX2_fewest_J6_bitCount_0f7a4
set_option maxRecDepth 20000 in
theorem ggX2_fewest_X2_leastSetToLeaveOut : GoodIn wsX2_fewest wsX2_leastSetToLeaveOut := goodIn_r _ [17, 1, 2, 7, 8, 9, 10, 11, 12, 13, 18, 19, 20, 5, 21, 22, 23, 24, 25, 26, 27, 28, 29, 30, 31, 32, 33, 34, 35, 36, 37, 38, 39, 40, 41, 42, 43, 44, 45, 46, 47, 48, 49, 50, 51, 52, 53, 54, 55, 56, 57, 58, 59, 60, 61, 62, 63, 64, 65, 66, 67, 68, 69, 70, 71, 72, 73, 74, 75, 76, 77, 78, 79, 80, 81, 82, 83, 84, 85, 86, 87, 88, 89, 90, 91, 92, 93, 94, 95, 96, 97, 98, 99, 100, 101, 102, 103, 104, 105, 106, 107, 108, 109, 110, 111, 112] (by decide +kernel) (by decide +kernel)
set_option maxRecDepth 20000 in
theorem gX2_fewest_X2_leastSetToLeaveOut : GoodIn wsX2_fewest (wsV RX2 146 RX2 yX2_leastSetToLeaveOut wsX2_leastSetToLeaveOut) := goodIn_app (goodIn_of _ (by decide +kernel)) ggX2_fewest_X2_leastSetToLeaveOut
theorem dX2_fewest_0 : decode cX2_fewest 0 = .ok (.iload_n 1, 1) := by decide +kernel
theorem dX2_fewest_1 : decode cX2_fewest 1 = .ok (.iconst 0, 1) := by decide +kernel
theorem dX2_fewest_2 : decode cX2_fewest 2 = .ok (.sipush 9999, 3) := by decide +kernel
theorem dX2_fewest_5 : decode cX2_fewest 5 = .ok (.invokestatic 57, 3) := by decide +kernel
theorem dX2_fewest_8 : decode cX2_fewest 8 = .ok (.ifCond .eq 12, 3) := by decide +kernel
theorem dX2_fewest_11 : decode cX2_fewest 11 = .ok (.iload_n 2, 1) := by decide +kernel
theorem dX2_fewest_12 : decode cX2_fewest 12 = .ok (.iconst 0, 1) := by decide +kernel
theorem dX2_fewest_13 : decode cX2_fewest 13 = .ok (.iconst 1, 1) := by decide +kernel
theorem dX2_fewest_14 : decode cX2_fewest 14 = .ok (.invokestatic 57, 3) := by decide +kernel
theorem dX2_fewest_17 : decode cX2_fewest 17 = .ok (.ifCond .ne 6, 3) := by decide +kernel
theorem dX2_fewest_20 : decode cX2_fewest 20 = .ok (.bipush (-2), 2) := by decide +kernel
theorem dX2_fewest_22 : decode cX2_fewest 22 = .ok (.ireturn, 1) := by decide +kernel
theorem dX2_fewest_23 : decode cX2_fewest 23 = .ok (.aload_n 0, 1) := by decide +kernel
theorem dX2_fewest_24 : decode cX2_fewest 24 = .ok (.getfield 12, 3) := by decide +kernel
theorem dX2_fewest_27 : decode cX2_fewest 27 = .ok (.getfield 50, 3) := by decide +kernel
theorem dX2_fewest_30 : decode cX2_fewest 30 = .ok (.invokestatic 61, 3) := by decide +kernel
theorem dX2_fewest_33 : decode cX2_fewest 33 = .ok (.iconst 3, 1) := by decide +kernel
theorem dX2_fewest_34 : decode cX2_fewest 34 = .ok (.isub, 1) := by decide +kernel
theorem dX2_fewest_35 : decode cX2_fewest 35 = .ok (.istore_n 3, 1) := by decide +kernel
theorem dX2_fewest_36 : decode cX2_fewest 36 = .ok (.iconst 0, 1) := by decide +kernel
theorem dX2_fewest_37 : decode cX2_fewest 37 = .ok (.istore 4, 2) := by decide +kernel
theorem dX2_fewest_39 : decode cX2_fewest 39 = .ok (.iload 4, 2) := by decide +kernel
theorem dX2_fewest_41 : decode cX2_fewest 41 = .ok (.iload_n 3, 1) := by decide +kernel
theorem dX2_fewest_42 : decode cX2_fewest 42 = .ok (.if_icmp .gt 37, 3) := by decide +kernel
theorem dX2_fewest_45 : decode cX2_fewest 45 = .ok (.aload_n 0, 1) := by decide +kernel
theorem dX2_fewest_46 : decode cX2_fewest 46 = .ok (.iload 4, 2) := by decide +kernel
theorem dX2_fewest_48 : decode cX2_fewest 48 = .ok (.iload_n 1, 1) := by decide +kernel
theorem dX2_fewest_49 : decode cX2_fewest 49 = .ok (.invokevirtual 146, 3) := by decide +kernel
theorem dX2_fewest_52 : decode cX2_fewest 52 = .ok (.istore 5, 2) := by decide +kernel
theorem dX2_fewest_54 : decode cX2_fewest 54 = .ok (.iload 5, 2) := by decide +kernel
theorem dX2_fewest_56 : decode cX2_fewest 56 = .ok (.bipush (-6), 2) := by decide +kernel
theorem dX2_fewest_58 : decode cX2_fewest 58 = .ok (.if_icmp .eq 15, 3) := by decide +kernel
theorem dX2_fewest_61 : decode cX2_fewest 61 = .ok (.iload_n 2, 1) := by decide +kernel
theorem dX2_fewest_62 : decode cX2_fewest 62 = .ok (.ifCond .ne 8, 3) := by decide +kernel
theorem dX2_fewest_65 : decode cX2_fewest 65 = .ok (.iload 4, 2) := by decide +kernel
theorem dX2_fewest_67 : decode cX2_fewest 67 = .ok (.goto 5, 3) := by decide +kernel
theorem dX2_fewest_70 : decode cX2_fewest 70 = .ok (.iload 5, 2) := by decide +kernel
theorem dX2_fewest_72 : decode cX2_fewest 72 = .ok (.ireturn, 1) := by decide +kernel
theorem dX2_fewest_73 : decode cX2_fewest 73 = .ok (.iinc 4 1, 3) := by decide +kernel
theorem dX2_fewest_76 : decode cX2_fewest 76 = .ok (.goto (-37), 3) := by decide +kernel
theorem dX2_fewest_79 : decode cX2_fewest 79 = .ok (.bipush (-6), 2) := by decide +kernel
theorem dX2_fewest_81 : decode cX2_fewest 81 = .ok (.ireturn, 1) := by decide +kernel
set_option maxRecDepth 20000 in
theorem ggX2_image_X2_isBetween : GoodIn wsX2_image wsX2_isBetween := goodIn_r _ [8] (by decide +kernel) (by decide +kernel)
set_option maxRecDepth 20000 in
theorem gX2_image_X2_isBetween : GoodIn wsX2_image (va_wsS RX2 57 yX2_isBetween wsX2_isBetween) := goodIn_app (goodIn_of _ (by decide +kernel)) ggX2_image_X2_isBetween
set_option maxRecDepth 20000 in
theorem ggX2_image_X1_become : GoodIn wsX2_image wsX1_become := goodIn_r _ [13, 14, 15, 16, 17, 18, 25, 26, 27, 28, 29] (by decide +kernel) (by decide +kernel)
set_option maxRecDepth 20000 in
theorem gX2_image_X1_become : GoodIn wsX2_image (wsV RX2 149 RX1 yX1_become wsX1_become) := goodIn_app (goodIn_of _ (by decide +kernel)) ggX2_image_X1_become
theorem dX2_image_0 : decode cX2_image 0 = .ok (.iload_n 1, 1) := by decide +kernel
theorem dX2_image_1 : decode cX2_image 1 = .ok (.iconst 0, 1) := by decide +kernel
theorem dX2_image_2 : decode cX2_image 2 = .ok (.iconst 1, 1) := by decide +kernel
theorem dX2_image_3 : decode cX2_image 3 = .ok (.invokestatic 57, 3) := by decide +kernel
theorem dX2_image_6 : decode cX2_image 6 = .ok (.ifCond .ne 6, 3) := by decide +kernel
theorem dX2_image_9 : decode cX2_image 9 = .ok (.bipush (-2), 2) := by decide +kernel
theorem dX2_image_11 : decode cX2_image 11 = .ok (.ireturn, 1) := by decide +kernel
theorem dX2_image_12 : decode cX2_image 12 = .ok (.iload_n 1, 1) := by decide +kernel
theorem dX2_image_13 : decode cX2_image 13 = .ok (.ifCond .ne 10, 3) := by decide +kernel
theorem dX2_image_16 : decode cX2_image 16 = .ok (.aload_n 0, 1) := by decide +kernel
theorem dX2_image_17 : decode cX2_image 17 = .ok (.getfield 16, 3) := by decide +kernel
theorem dX2_image_20 : decode cX2_image 20 = .ok (.goto 7, 3) := by decide +kernel
theorem dX2_image_23 : decode cX2_image 23 = .ok (.aload_n 0, 1) := by decide +kernel
theorem dX2_image_24 : decode cX2_image 24 = .ok (.getfield 19, 3) := by decide +kernel
theorem dX2_image_27 : decode cX2_image 27 = .ok (.aload_n 0, 1) := by decide +kernel
theorem dX2_image_28 : decode cX2_image 28 = .ok (.getfield 12, 3) := by decide +kernel
theorem dX2_image_31 : decode cX2_image 31 = .ok (.invokevirtual 149, 3) := by decide +kernel
theorem dX2_image_34 : decode cX2_image 34 = .ok (.aload_n 0, 1) := by decide +kernel
theorem dX2_image_35 : decode cX2_image 35 = .ok (.dup, 1) := by decide +kernel
theorem dX2_image_36 : decode cX2_image 36 = .ok (.getfield 22, 3) := by decide +kernel
theorem dX2_image_39 : decode cX2_image 39 = .ok (.iconst 1, 1) := by decide +kernel
theorem dX2_image_40 : decode cX2_image 40 = .ok (.iload_n 1, 1) := by decide +kernel
theorem dX2_image_41 : decode cX2_image 41 = .ok (.ishl, 1) := by decide +kernel
theorem dX2_image_42 : decode cX2_image 42 = .ok (.ior, 1) := by decide +kernel
theorem dX2_image_43 : decode cX2_image 43 = .ok (.putfield 22, 3) := by decide +kernel
theorem dX2_image_46 : decode cX2_image 46 = .ok (.iconst 1, 1) := by decide +kernel
theorem dX2_image_47 : decode cX2_image 47 = .ok (.ireturn, 1) := by decide +kernel
set_option maxRecDepth 20000 in
theorem ggX2_restore_X2_isBetween : GoodIn wsX2_restore wsX2_isBetween := goodIn_r _ [8] (by decide +kernel) (by decide +kernel)
set_option maxRecDepth 20000 in
theorem gX2_restore_X2_isBetween : GoodIn wsX2_restore (va_wsS RX2 57 yX2_isBetween wsX2_isBetween) := goodIn_app (goodIn_of _ (by decide +kernel)) ggX2_restore_X2_isBetween
set_option maxRecDepth 20000 in
theorem ggX2_restore_X2_isIn : GoodIn wsX2_restore wsX2_isIn := goodIn_r _ [11] (by decide +kernel) (by decide +kernel)
set_option maxRecDepth 20000 in
theorem gX2_restore_X2_isIn : GoodIn wsX2_restore (va_wsS RX2 67 yX2_isIn wsX2_isIn) := goodIn_app (goodIn_of _ (by decide +kernel)) ggX2_restore_X2_isIn
set_option maxRecDepth 20000 in
theorem ggX2_restore_X1_become : GoodIn wsX2_restore wsX1_become := goodIn_r _ [16, 17, 18, 19, 20, 21, 28, 29, 30, 31, 32] (by decide +kernel) (by decide +kernel)
set_option maxRecDepth 20000 in
theorem gX2_restore_X1_become : GoodIn wsX2_restore (wsV RX2 149 RX1 yX1_become wsX1_become) := goodIn_app (goodIn_of _ (by decide +kernel)) ggX2_restore_X1_become
theorem dX2_restore_0 : decode cX2_restore 0 = .ok (.iload_n 1, 1) := by decide +kernel
theorem dX2_restore_1 : decode cX2_restore 1 = .ok (.iconst 0, 1) := by decide +kernel
theorem dX2_restore_2 : decode cX2_restore 2 = .ok (.iconst 1, 1) := by decide +kernel
theorem dX2_restore_3 : decode cX2_restore 3 = .ok (.invokestatic 57, 3) := by decide +kernel
theorem dX2_restore_6 : decode cX2_restore 6 = .ok (.ifCond .ne 6, 3) := by decide +kernel
theorem dX2_restore_9 : decode cX2_restore 9 = .ok (.bipush (-2), 2) := by decide +kernel
theorem dX2_restore_11 : decode cX2_restore 11 = .ok (.ireturn, 1) := by decide +kernel
theorem dX2_restore_12 : decode cX2_restore 12 = .ok (.aload_n 0, 1) := by decide +kernel
theorem dX2_restore_13 : decode cX2_restore 13 = .ok (.getfield 22, 3) := by decide +kernel
theorem dX2_restore_16 : decode cX2_restore 16 = .ok (.iload_n 1, 1) := by decide +kernel
theorem dX2_restore_17 : decode cX2_restore 17 = .ok (.invokestatic 67, 3) := by decide +kernel
theorem dX2_restore_20 : decode cX2_restore 20 = .ok (.ifCond .ne 6, 3) := by decide +kernel
theorem dX2_restore_23 : decode cX2_restore 23 = .ok (.bipush (-3), 2) := by decide +kernel
theorem dX2_restore_25 : decode cX2_restore 25 = .ok (.ireturn, 1) := by decide +kernel
theorem dX2_restore_26 : decode cX2_restore 26 = .ok (.aload_n 0, 1) := by decide +kernel
theorem dX2_restore_27 : decode cX2_restore 27 = .ok (.getfield 12, 3) := by decide +kernel
theorem dX2_restore_30 : decode cX2_restore 30 = .ok (.iload_n 1, 1) := by decide +kernel
theorem dX2_restore_31 : decode cX2_restore 31 = .ok (.ifCond .ne 10, 3) := by decide +kernel
theorem dX2_restore_34 : decode cX2_restore 34 = .ok (.aload_n 0, 1) := by decide +kernel
theorem dX2_restore_35 : decode cX2_restore 35 = .ok (.getfield 16, 3) := by decide +kernel
theorem dX2_restore_38 : decode cX2_restore 38 = .ok (.goto 7, 3) := by decide +kernel
theorem dX2_restore_41 : decode cX2_restore 41 = .ok (.aload_n 0, 1) := by decide +kernel
theorem dX2_restore_42 : decode cX2_restore 42 = .ok (.getfield 19, 3) := by decide +kernel
theorem dX2_restore_45 : decode cX2_restore 45 = .ok (.invokevirtual 149, 3) := by decide +kernel
theorem dX2_restore_48 : decode cX2_restore 48 = .ok (.iconst 1, 1) := by decide +kernel
theorem dX2_restore_49 : decode cX2_restore 49 = .ok (.ireturn, 1) := by decide +kernel
set_option maxRecDepth 20000 in
theorem ggX2_count_J6_bitCount_0f7a4 : GoodIn wsX2_count wsJ6_bitCount_0f7a4 := goodIn_r _ [10, 11, 12, 13] (by decide +kernel) (by decide +kernel)
set_option maxRecDepth 20000 in
theorem gX2_count_J6_bitCount_0f7a4 : GoodIn wsX2_count (va_wsS RX2 61 yJ6_bitCount_0f7a4 wsJ6_bitCount_0f7a4) := goodIn_app (goodIn_of _ (by decide +kernel)) ggX2_count_J6_bitCount_0f7a4
set_option maxRecDepth 20000 in
theorem ggX2_count_X2_layTheRound : GoodIn wsX2_count wsX2_layTheRound := goodIn_r _ [18, 5, 1, 3, 19, 20, 21, 17, 22, 23, 24, 25, 26, 27, 28, 29, 30, 31, 32, 33, 34, 35, 36, 37, 38, 39, 40, 41, 42, 43, 44, 45, 46, 47, 48, 49, 50, 51, 52, 53, 54, 55, 60, 61, 62, 63, 64, 65, 66, 67, 68, 69, 70, 71, 72, 73, 74, 75, 76, 77, 78, 79, 80, 81, 82, 83] (by decide +kernel) (by decide +kernel)
set_option maxRecDepth 20000 in
theorem gX2_count_X2_layTheRound : GoodIn wsX2_count (wsV RX2 76 RX2 yX2_layTheRound wsX2_layTheRound) := goodIn_app (goodIn_of _ (by decide +kernel)) ggX2_count_X2_layTheRound
set_option maxRecDepth 20000 in
theorem ggX2_count_X0_isFlat : GoodIn wsX2_count wsX0_isFlat := goodIn_r _ [59, 52, 71, 72, 73, 74, 75, 76, 77, 78, 79, 80, 81, 82, 83] (by decide +kernel) (by decide +kernel)
set_option maxRecDepth 20000 in
theorem gX2_count_X0_isFlat : GoodIn wsX2_count (wsV RX2 79 RX0 yX0_isFlat wsX0_isFlat) := goodIn_app (goodIn_of _ (by decide +kernel)) ggX2_count_X0_isFlat
theorem dX2_count_0 : decode cX2_count 0 = .ok (.iload_n 1, 1) := by decide +kernel
theorem dX2_count_1 : decode cX2_count 1 = .ok (.tableswitch 99 0 5 #[39, 47, 58, 66, 74, 94], 39) := by decide +kernel
theorem dX2_count_40 : decode cX2_count 40 = .ok (.aload_n 0, 1) := by decide +kernel
theorem dX2_count_41 : decode cX2_count 41 = .ok (.getfield 12, 3) := by decide +kernel
theorem dX2_count_44 : decode cX2_count 44 = .ok (.getfield 40, 3) := by decide +kernel
theorem dX2_count_47 : decode cX2_count 47 = .ok (.ireturn, 1) := by decide +kernel
theorem dX2_count_48 : decode cX2_count 48 = .ok (.aload_n 0, 1) := by decide +kernel
theorem dX2_count_49 : decode cX2_count 49 = .ok (.getfield 12, 3) := by decide +kernel
theorem dX2_count_52 : decode cX2_count 52 = .ok (.getfield 50, 3) := by decide +kernel
theorem dX2_count_55 : decode cX2_count 55 = .ok (.invokestatic 61, 3) := by decide +kernel
theorem dX2_count_58 : decode cX2_count 58 = .ok (.ireturn, 1) := by decide +kernel
theorem dX2_count_59 : decode cX2_count 59 = .ok (.aload_n 0, 1) := by decide +kernel
theorem dX2_count_60 : decode cX2_count 60 = .ok (.getfield 12, 3) := by decide +kernel
theorem dX2_count_63 : decode cX2_count 63 = .ok (.getfield 50, 3) := by decide +kernel
theorem dX2_count_66 : decode cX2_count 66 = .ok (.ireturn, 1) := by decide +kernel
theorem dX2_count_67 : decode cX2_count 67 = .ok (.aload_n 0, 1) := by decide +kernel
theorem dX2_count_68 : decode cX2_count 68 = .ok (.getfield 12, 3) := by decide +kernel
theorem dX2_count_71 : decode cX2_count 71 = .ok (.getfield 122, 3) := by decide +kernel
theorem dX2_count_74 : decode cX2_count 74 = .ok (.ireturn, 1) := by decide +kernel
theorem dX2_count_75 : decode cX2_count 75 = .ok (.aload_n 0, 1) := by decide +kernel
theorem dX2_count_76 : decode cX2_count 76 = .ok (.invokevirtual 76, 3) := by decide +kernel
theorem dX2_count_79 : decode cX2_count 79 = .ok (.aload_n 0, 1) := by decide +kernel
theorem dX2_count_80 : decode cX2_count 80 = .ok (.getfield 29, 3) := by decide +kernel
theorem dX2_count_83 : decode cX2_count 83 = .ok (.invokevirtual 79, 3) := by decide +kernel
theorem dX2_count_86 : decode cX2_count 86 = .ok (.ifCond .eq 7, 3) := by decide +kernel
theorem dX2_count_89 : decode cX2_count 89 = .ok (.iconst 1, 1) := by decide +kernel
theorem dX2_count_90 : decode cX2_count 90 = .ok (.goto 4, 3) := by decide +kernel
theorem dX2_count_93 : decode cX2_count 93 = .ok (.iconst 0, 1) := by decide +kernel
theorem dX2_count_94 : decode cX2_count 94 = .ok (.ireturn, 1) := by decide +kernel
theorem dX2_count_95 : decode cX2_count 95 = .ok (.aload_n 0, 1) := by decide +kernel
theorem dX2_count_96 : decode cX2_count 96 = .ok (.getfield 22, 3) := by decide +kernel
theorem dX2_count_99 : decode cX2_count 99 = .ok (.ireturn, 1) := by decide +kernel
theorem dX2_count_100 : decode cX2_count 100 = .ok (.bipush (-2), 2) := by decide +kernel
theorem dX2_count_102 : decode cX2_count 102 = .ok (.ireturn, 1) := by decide +kernel
theorem dX2_isBetween_0 : decode cX2_isBetween 0 = .ok (.iload_n 0, 1) := by decide +kernel
theorem dX2_isBetween_1 : decode cX2_isBetween 1 = .ok (.iload_n 1, 1) := by decide +kernel
theorem dX2_isBetween_2 : decode cX2_isBetween 2 = .ok (.if_icmp .lt 12, 3) := by decide +kernel
theorem dX2_isBetween_5 : decode cX2_isBetween 5 = .ok (.iload_n 0, 1) := by decide +kernel
theorem dX2_isBetween_6 : decode cX2_isBetween 6 = .ok (.iload_n 2, 1) := by decide +kernel
theorem dX2_isBetween_7 : decode cX2_isBetween 7 = .ok (.if_icmp .gt 7, 3) := by decide +kernel
theorem dX2_isBetween_10 : decode cX2_isBetween 10 = .ok (.iconst 1, 1) := by decide +kernel
theorem dX2_isBetween_11 : decode cX2_isBetween 11 = .ok (.goto 4, 3) := by decide +kernel
theorem dX2_isBetween_14 : decode cX2_isBetween 14 = .ok (.iconst 0, 1) := by decide +kernel
theorem dX2_isBetween_15 : decode cX2_isBetween 15 = .ok (.ireturn, 1) := by decide +kernel
set_option maxRecDepth 20000 in
theorem ggX2_isPlace_X2_isBetween : GoodIn wsX2_isPlace wsX2_isBetween := goodIn_r _ [4] (by decide +kernel) (by decide +kernel)
set_option maxRecDepth 20000 in
theorem gX2_isPlace_X2_isBetween : GoodIn wsX2_isPlace (va_wsS RX2 57 yX2_isBetween wsX2_isBetween) := goodIn_app (goodIn_of _ (by decide +kernel)) ggX2_isPlace_X2_isBetween
theorem dX2_isPlace_0 : decode cX2_isPlace 0 = .ok (.iload_n 0, 1) := by decide +kernel
theorem dX2_isPlace_1 : decode cX2_isPlace 1 = .ok (.bipush (-40), 2) := by decide +kernel
theorem dX2_isPlace_3 : decode cX2_isPlace 3 = .ok (.bipush 40, 2) := by decide +kernel
theorem dX2_isPlace_5 : decode cX2_isPlace 5 = .ok (.invokestatic 57, 3) := by decide +kernel
theorem dX2_isPlace_8 : decode cX2_isPlace 8 = .ok (.ifCond .eq 18, 3) := by decide +kernel
theorem dX2_isPlace_11 : decode cX2_isPlace 11 = .ok (.iload_n 1, 1) := by decide +kernel
theorem dX2_isPlace_12 : decode cX2_isPlace 12 = .ok (.bipush (-40), 2) := by decide +kernel
theorem dX2_isPlace_14 : decode cX2_isPlace 14 = .ok (.bipush 40, 2) := by decide +kernel
theorem dX2_isPlace_16 : decode cX2_isPlace 16 = .ok (.invokestatic 57, 3) := by decide +kernel
theorem dX2_isPlace_19 : decode cX2_isPlace 19 = .ok (.ifCond .eq 7, 3) := by decide +kernel
theorem dX2_isPlace_22 : decode cX2_isPlace 22 = .ok (.iconst 1, 1) := by decide +kernel
theorem dX2_isPlace_23 : decode cX2_isPlace 23 = .ok (.goto 4, 3) := by decide +kernel
theorem dX2_isPlace_26 : decode cX2_isPlace 26 = .ok (.iconst 0, 1) := by decide +kernel
theorem dX2_isPlace_27 : decode cX2_isPlace 27 = .ok (.ireturn, 1) := by decide +kernel
theorem dX2_isSample_0 : decode cX2_isSample 0 = .ok (.iload_n 1, 1) := by decide +kernel
theorem dX2_isSample_1 : decode cX2_isSample 1 = .ok (.ifCond .lt 24, 3) := by decide +kernel
theorem dX2_isSample_4 : decode cX2_isSample 4 = .ok (.iload_n 1, 1) := by decide +kernel
theorem dX2_isSample_5 : decode cX2_isSample 5 = .ok (.aload_n 0, 1) := by decide +kernel
theorem dX2_isSample_6 : decode cX2_isSample 6 = .ok (.getfield 12, 3) := by decide +kernel
theorem dX2_isSample_9 : decode cX2_isSample 9 = .ok (.getfield 40, 3) := by decide +kernel
theorem dX2_isSample_12 : decode cX2_isSample 12 = .ok (.if_icmp .ge 13, 3) := by decide +kernel
theorem dX2_isSample_15 : decode cX2_isSample 15 = .ok (.iload_n 1, 1) := by decide +kernel
theorem dX2_isSample_16 : decode cX2_isSample 16 = .ok (.bipush 10, 2) := by decide +kernel
theorem dX2_isSample_18 : decode cX2_isSample 18 = .ok (.if_icmp .ge 7, 3) := by decide +kernel
theorem dX2_isSample_21 : decode cX2_isSample 21 = .ok (.iconst 1, 1) := by decide +kernel
theorem dX2_isSample_22 : decode cX2_isSample 22 = .ok (.goto 4, 3) := by decide +kernel
theorem dX2_isSample_25 : decode cX2_isSample 25 = .ok (.iconst 0, 1) := by decide +kernel
theorem dX2_isSample_26 : decode cX2_isSample 26 = .ok (.ireturn, 1) := by decide +kernel
theorem dX2_isIn_0 : decode cX2_isIn 0 = .ok (.iload_n 0, 1) := by decide +kernel
theorem dX2_isIn_1 : decode cX2_isIn 1 = .ok (.iload_n 1, 1) := by decide +kernel
theorem dX2_isIn_2 : decode cX2_isIn 2 = .ok (.ishr, 1) := by decide +kernel
theorem dX2_isIn_3 : decode cX2_isIn 3 = .ok (.iconst 1, 1) := by decide +kernel
theorem dX2_isIn_4 : decode cX2_isIn 4 = .ok (.iand, 1) := by decide +kernel
theorem dX2_isIn_5 : decode cX2_isIn 5 = .ok (.iconst 1, 1) := by decide +kernel
theorem dX2_isIn_6 : decode cX2_isIn 6 = .ok (.if_icmp .ne 7, 3) := by decide +kernel
end
section
theorem dX2_isIn_9 : decode cX2_isIn 9 = .ok (.iconst 1, 1) := by decide +kernel
theorem dX2_isIn_10 : decode cX2_isIn 10 = .ok (.goto 4, 3) := by decide +kernel
theorem dX2_isIn_13 : decode cX2_isIn 13 = .ok (.iconst 0, 1) := by decide +kernel
theorem dX2_isIn_14 : decode cX2_isIn 14 = .ok (.ireturn, 1) := by decide +kernel
theorem dX2_powerAt_0 : decode cX2_powerAt 0 = .ok (.iload_n 0, 1) := by decide +kernel
theorem dX2_powerAt_1 : decode cX2_powerAt 1 = .ok (.iload_n 0, 1) := by decide +kernel
theorem dX2_powerAt_2 : decode cX2_powerAt 2 = .ok (.imul, 1) := by decide +kernel
theorem dX2_powerAt_3 : decode cX2_powerAt 3 = .ok (.iload_n 1, 1) := by decide +kernel
theorem dX2_powerAt_4 : decode cX2_powerAt 4 = .ok (.iload_n 1, 1) := by decide +kernel
theorem dX2_powerAt_5 : decode cX2_powerAt 5 = .ok (.imul, 1) := by decide +kernel
theorem dX2_powerAt_6 : decode cX2_powerAt 6 = .ok (.iadd, 1) := by decide +kernel
theorem dX2_powerAt_7 : decode cX2_powerAt 7 = .ok (.ireturn, 1) := by decide +kernel
set_option maxRecDepth 20000 in
theorem ggX2_partOfLowest_X2_greatestDivisor : GoodIn wsX2_partOfLowest wsX2_greatestDivisor := goodIn_r _ [8] (by decide +kernel) (by decide +kernel)
set_option maxRecDepth 20000 in
theorem gX2_partOfLowest_X2_greatestDivisor : GoodIn wsX2_partOfLowest (va_wsS RX2 159 yX2_greatestDivisor wsX2_greatestDivisor) := goodIn_app (goodIn_of _ (by decide +kernel)) ggX2_partOfLowest_X2_greatestDivisor
theorem dX2_partOfLowest_0 : decode cX2_partOfLowest 0 = .ok (.lload_n 0, 1) := by decide +kernel
theorem dX2_partOfLowest_1 : decode cX2_partOfLowest 1 = .ok (.invokestatic 153, 3) := by decide +kernel
theorem dX2_partOfLowest_4 : decode cX2_partOfLowest 4 = .ok (.lload_n 2, 1) := by decide +kernel
theorem dX2_partOfLowest_5 : decode cX2_partOfLowest 5 = .ok (.invokestatic 159, 3) := by decide +kernel
theorem dX2_partOfLowest_8 : decode cX2_partOfLowest 8 = .ok (.lstore 5, 2) := by decide +kernel
theorem dX2_partOfLowest_10 : decode cX2_partOfLowest 10 = .ok (.lload 5, 2) := by decide +kernel
theorem dX2_partOfLowest_12 : decode cX2_partOfLowest 12 = .ok (.lconst 0, 1) := by decide +kernel
theorem dX2_partOfLowest_13 : decode cX2_partOfLowest 13 = .ok (.lcmp, 1) := by decide +kernel
theorem dX2_partOfLowest_14 : decode cX2_partOfLowest 14 = .ok (.ifCond .gt 7, 3) := by decide +kernel
theorem dX2_partOfLowest_17 : decode cX2_partOfLowest 17 = .ok (.iload 4, 2) := by decide +kernel
theorem dX2_partOfLowest_19 : decode cX2_partOfLowest 19 = .ok (.i2l, 1) := by decide +kernel
theorem dX2_partOfLowest_20 : decode cX2_partOfLowest 20 = .ok (.lreturn, 1) := by decide +kernel
theorem dX2_partOfLowest_21 : decode cX2_partOfLowest 21 = .ok (.iload 4, 2) := by decide +kernel
theorem dX2_partOfLowest_23 : decode cX2_partOfLowest 23 = .ok (.ifCond .ne 7, 3) := by decide +kernel
theorem dX2_partOfLowest_26 : decode cX2_partOfLowest 26 = .ok (.lload_n 0, 1) := by decide +kernel
theorem dX2_partOfLowest_27 : decode cX2_partOfLowest 27 = .ok (.goto 4, 3) := by decide +kernel
theorem dX2_partOfLowest_30 : decode cX2_partOfLowest 30 = .ok (.lload_n 2, 1) := by decide +kernel
theorem dX2_partOfLowest_31 : decode cX2_partOfLowest 31 = .ok (.lload 5, 2) := by decide +kernel
theorem dX2_partOfLowest_33 : decode cX2_partOfLowest 33 = .ok (.ldiv, 1) := by decide +kernel
theorem dX2_partOfLowest_34 : decode cX2_partOfLowest 34 = .ok (.lreturn, 1) := by decide +kernel
theorem dX2_greatestDivisor_0 : decode cX2_greatestDivisor 0 = .ok (.lload_n 0, 1) := by decide +kernel
theorem dX2_greatestDivisor_1 : decode cX2_greatestDivisor 1 = .ok (.lstore 4, 2) := by decide +kernel
theorem dX2_greatestDivisor_3 : decode cX2_greatestDivisor 3 = .ok (.lload_n 2, 1) := by decide +kernel
theorem dX2_greatestDivisor_4 : decode cX2_greatestDivisor 4 = .ok (.lstore 6, 2) := by decide +kernel
theorem dX2_greatestDivisor_6 : decode cX2_greatestDivisor 6 = .ok (.iconst 0, 1) := by decide +kernel
theorem dX2_greatestDivisor_7 : decode cX2_greatestDivisor 7 = .ok (.istore 8, 2) := by decide +kernel
theorem dX2_greatestDivisor_9 : decode cX2_greatestDivisor 9 = .ok (.iload 8, 2) := by decide +kernel
theorem dX2_greatestDivisor_11 : decode cX2_greatestDivisor 11 = .ok (.bipush 100, 2) := by decide +kernel
theorem dX2_greatestDivisor_13 : decode cX2_greatestDivisor 13 = .ok (.if_icmp .ge 31, 3) := by decide +kernel
theorem dX2_greatestDivisor_16 : decode cX2_greatestDivisor 16 = .ok (.lload 6, 2) := by decide +kernel
theorem dX2_greatestDivisor_18 : decode cX2_greatestDivisor 18 = .ok (.lconst 0, 1) := by decide +kernel
theorem dX2_greatestDivisor_19 : decode cX2_greatestDivisor 19 = .ok (.lcmp, 1) := by decide +kernel
theorem dX2_greatestDivisor_20 : decode cX2_greatestDivisor 20 = .ok (.ifCond .eq 24, 3) := by decide +kernel
theorem dX2_greatestDivisor_23 : decode cX2_greatestDivisor 23 = .ok (.lload 4, 2) := by decide +kernel
theorem dX2_greatestDivisor_25 : decode cX2_greatestDivisor 25 = .ok (.lload 6, 2) := by decide +kernel
theorem dX2_greatestDivisor_27 : decode cX2_greatestDivisor 27 = .ok (.lrem, 1) := by decide +kernel
theorem dX2_greatestDivisor_28 : decode cX2_greatestDivisor 28 = .ok (.lstore 9, 2) := by decide +kernel
theorem dX2_greatestDivisor_30 : decode cX2_greatestDivisor 30 = .ok (.lload 6, 2) := by decide +kernel
theorem dX2_greatestDivisor_32 : decode cX2_greatestDivisor 32 = .ok (.lstore 4, 2) := by decide +kernel
theorem dX2_greatestDivisor_34 : decode cX2_greatestDivisor 34 = .ok (.lload 9, 2) := by decide +kernel
theorem dX2_greatestDivisor_36 : decode cX2_greatestDivisor 36 = .ok (.lstore 6, 2) := by decide +kernel
theorem dX2_greatestDivisor_38 : decode cX2_greatestDivisor 38 = .ok (.iinc 8 1, 3) := by decide +kernel
theorem dX2_greatestDivisor_41 : decode cX2_greatestDivisor 41 = .ok (.goto (-32), 3) := by decide +kernel
theorem dX2_greatestDivisor_44 : decode cX2_greatestDivisor 44 = .ok (.lload 4, 2) := by decide +kernel
theorem dX2_greatestDivisor_46 : decode cX2_greatestDivisor 46 = .ok (.lreturn, 1) := by decide +kernel
set_option maxRecDepth 20000 in
theorem ggX2_layTheRound_X2_sumUp : GoodIn wsX2_layTheRound wsX2_sumUp := goodIn_r _ [8, 2, 9, 10, 11, 12, 13, 14, 15, 16, 17, 18, 19, 20, 21, 22, 23, 24, 25, 26, 7, 27, 28, 29, 30, 31, 32, 33, 42, 43, 44, 45, 46, 47, 48, 49, 50, 51, 52, 53, 54, 55, 56, 57, 58, 59, 60, 61, 62, 63, 64, 65] (by decide +kernel) (by decide +kernel)
set_option maxRecDepth 20000 in
theorem gX2_layTheRound_X2_sumUp : GoodIn wsX2_layTheRound (wsV RX2 135 RX2 yX2_sumUp wsX2_sumUp) := goodIn_app (goodIn_of _ (by decide +kernel)) ggX2_layTheRound_X2_sumUp
set_option maxRecDepth 20000 in
theorem ggX2_layTheRound_X0_lay : GoodIn wsX2_layTheRound wsX0_lay := goodIn_r _ [37, 16, 19, 17, 20, 18, 21, 23, 22, 24, 38, 39, 40, 41, 53, 54, 55, 56, 57, 58, 59, 60, 61, 62, 63, 64, 65] (by decide +kernel) (by decide +kernel)
set_option maxRecDepth 20000 in
theorem gX2_layTheRound_X0_lay : GoodIn wsX2_layTheRound (wsV RX2 163 RX0 yX0_lay wsX0_lay) := goodIn_app (goodIn_of _ (by decide +kernel)) ggX2_layTheRound_X0_lay
theorem dX2_layTheRound_0 : decode cX2_layTheRound 0 = .ok (.aload_n 0, 1) := by decide +kernel
theorem dX2_layTheRound_1 : decode cX2_layTheRound 1 = .ok (.aload_n 0, 1) := by decide +kernel
theorem dX2_layTheRound_2 : decode cX2_layTheRound 2 = .ok (.getfield 29, 3) := by decide +kernel
theorem dX2_layTheRound_5 : decode cX2_layTheRound 5 = .ok (.aload_n 0, 1) := by decide +kernel
theorem dX2_layTheRound_6 : decode cX2_layTheRound 6 = .ok (.getfield 12, 3) := by decide +kernel
theorem dX2_layTheRound_9 : decode cX2_layTheRound 9 = .ok (.getfield 50, 3) := by decide +kernel
theorem dX2_layTheRound_12 : decode cX2_layTheRound 12 = .ok (.invokevirtual 135, 3) := by decide +kernel
theorem dX2_layTheRound_15 : decode cX2_layTheRound 15 = .ok (.aload_n 0, 1) := by decide +kernel
theorem dX2_layTheRound_16 : decode cX2_layTheRound 16 = .ok (.getfield 29, 3) := by decide +kernel
theorem dX2_layTheRound_19 : decode cX2_layTheRound 19 = .ok (.invokevirtual 163, 3) := by decide +kernel
theorem dX2_layTheRound_22 : decode cX2_layTheRound 22 = .ok (.return_, 1) := by decide +kernel
set_option maxRecDepth 20000 in
theorem ggX2_sumUp_X0_empty : GoodIn wsX2_sumUp wsX0_empty := goodIn_r _ [8, 9, 10, 11, 12, 13, 14, 15, 16, 17, 39, 40, 41, 42, 43, 44, 45, 46, 47, 48, 49, 50, 51] (by decide +kernel) (by decide +kernel)
set_option maxRecDepth 20000 in
theorem gX2_sumUp_X0_empty : GoodIn wsX2_sumUp (wsV RX2 166 RX0 yX0_empty wsX0_empty) := goodIn_app (goodIn_of _ (by decide +kernel)) ggX2_sumUp_X0_empty
set_option maxRecDepth 20000 in
theorem ggX2_sumUp_X2_isIn : GoodIn wsX2_sumUp wsX2_isIn := goodIn_r _ [21] (by decide +kernel) (by decide +kernel)
set_option maxRecDepth 20000 in
theorem gX2_sumUp_X2_isIn : GoodIn wsX2_sumUp (va_wsS RX2 67 yX2_isIn wsX2_isIn) := goodIn_app (goodIn_of _ (by decide +kernel)) ggX2_sumUp_X2_isIn
set_option maxRecDepth 20000 in
theorem ggX2_sumUp_X0_include : GoodIn wsX2_sumUp wsX0_include := goodIn_r _ [25, 9, 10, 11, 12, 13, 14, 15, 16, 17, 26, 20, 27, 39, 40, 41, 42, 43, 44, 45, 46, 47, 48, 49, 50, 51] (by decide +kernel) (by decide +kernel)
set_option maxRecDepth 20000 in
theorem gX2_sumUp_X0_include : GoodIn wsX2_sumUp (wsV RX2 169 RX0 yX0_include wsX0_include) := goodIn_app (goodIn_of _ (by decide +kernel)) ggX2_sumUp_X0_include
theorem dX2_sumUp_0 : decode cX2_sumUp 0 = .ok (.aload_n 1, 1) := by decide +kernel
theorem dX2_sumUp_1 : decode cX2_sumUp 1 = .ok (.invokevirtual 166, 3) := by decide +kernel
theorem dX2_sumUp_4 : decode cX2_sumUp 4 = .ok (.iconst 0, 1) := by decide +kernel
theorem dX2_sumUp_5 : decode cX2_sumUp 5 = .ok (.istore_n 3, 1) := by decide +kernel
theorem dX2_sumUp_6 : decode cX2_sumUp 6 = .ok (.iload_n 3, 1) := by decide +kernel
theorem dX2_sumUp_7 : decode cX2_sumUp 7 = .ok (.bipush 10, 2) := by decide +kernel
theorem dX2_sumUp_9 : decode cX2_sumUp 9 = .ok (.if_icmp .ge 39, 3) := by decide +kernel
theorem dX2_sumUp_12 : decode cX2_sumUp 12 = .ok (.iload_n 2, 1) := by decide +kernel
theorem dX2_sumUp_13 : decode cX2_sumUp 13 = .ok (.iload_n 3, 1) := by decide +kernel
theorem dX2_sumUp_14 : decode cX2_sumUp 14 = .ok (.invokestatic 67, 3) := by decide +kernel
theorem dX2_sumUp_17 : decode cX2_sumUp 17 = .ok (.ifCond .eq 25, 3) := by decide +kernel
theorem dX2_sumUp_20 : decode cX2_sumUp 20 = .ok (.aload_n 1, 1) := by decide +kernel
theorem dX2_sumUp_21 : decode cX2_sumUp 21 = .ok (.aload_n 0, 1) := by decide +kernel
theorem dX2_sumUp_22 : decode cX2_sumUp 22 = .ok (.getfield 12, 3) := by decide +kernel
theorem dX2_sumUp_25 : decode cX2_sumUp 25 = .ok (.getfield 43, 3) := by decide +kernel
theorem dX2_sumUp_28 : decode cX2_sumUp 28 = .ok (.iload_n 3, 1) := by decide +kernel
theorem dX2_sumUp_29 : decode cX2_sumUp 29 = .ok (.iaload, 1) := by decide +kernel
theorem dX2_sumUp_30 : decode cX2_sumUp 30 = .ok (.aload_n 0, 1) := by decide +kernel
theorem dX2_sumUp_31 : decode cX2_sumUp 31 = .ok (.getfield 12, 3) := by decide +kernel
theorem dX2_sumUp_34 : decode cX2_sumUp 34 = .ok (.getfield 47, 3) := by decide +kernel
theorem dX2_sumUp_37 : decode cX2_sumUp 37 = .ok (.iload_n 3, 1) := by decide +kernel
theorem dX2_sumUp_38 : decode cX2_sumUp 38 = .ok (.iaload, 1) := by decide +kernel
theorem dX2_sumUp_39 : decode cX2_sumUp 39 = .ok (.invokevirtual 169, 3) := by decide +kernel
theorem dX2_sumUp_42 : decode cX2_sumUp 42 = .ok (.iinc 3 1, 3) := by decide +kernel
theorem dX2_sumUp_45 : decode cX2_sumUp 45 = .ok (.goto (-39), 3) := by decide +kernel
theorem dX2_sumUp_48 : decode cX2_sumUp 48 = .ok (.return_, 1) := by decide +kernel
set_option maxRecDepth 20000 in
theorem ggX2_sizeUpper_X2_isSample : GoodIn wsX2_sizeUpper wsX2_isSample := goodIn_r _ [12, 1, 13, 26, 27, 28, 29, 30, 31, 32, 33, 34, 35, 36] (by decide +kernel) (by decide +kernel)
set_option maxRecDepth 20000 in
theorem gX2_sizeUpper_X2_isSample : GoodIn wsX2_sizeUpper (wsV RX2 53 RX2 yX2_isSample wsX2_isSample) := goodIn_app (goodIn_of _ (by decide +kernel)) ggX2_sizeUpper_X2_isSample
set_option maxRecDepth 20000 in
theorem ggX2_sizeUpper_X0_offUpperAt : GoodIn wsX2_sizeUpper wsX0_offUpperAt := goodIn_r _ [18, 19, 20, 21, 22, 23, 24, 11, 25, 37, 38, 39, 40, 41, 42, 43, 44, 45, 46, 47, 48, 49] (by decide +kernel) (by decide +kernel)
set_option maxRecDepth 20000 in
theorem gX2_sizeUpper_X0_offUpperAt : GoodIn wsX2_sizeUpper (wsV RX2 110 RX0 yX0_offUpperAt wsX0_offUpperAt) := goodIn_app (goodIn_of _ (by decide +kernel)) ggX2_sizeUpper_X0_offUpperAt
theorem dX2_sizeUpper_0 : decode cX2_sizeUpper 0 = .ok (.aload_n 0, 1) := by decide +kernel
theorem dX2_sizeUpper_1 : decode cX2_sizeUpper 1 = .ok (.iload_n 2, 1) := by decide +kernel
theorem dX2_sizeUpper_2 : decode cX2_sizeUpper 2 = .ok (.invokevirtual 53, 3) := by decide +kernel
theorem dX2_sizeUpper_5 : decode cX2_sizeUpper 5 = .ok (.ifCond .ne 5, 3) := by decide +kernel
theorem dX2_sizeUpper_8 : decode cX2_sizeUpper 8 = .ok (.lconst 0, 1) := by decide +kernel
theorem dX2_sizeUpper_9 : decode cX2_sizeUpper 9 = .ok (.lreturn, 1) := by decide +kernel
theorem dX2_sizeUpper_10 : decode cX2_sizeUpper 10 = .ok (.aload_n 1, 1) := by decide +kernel
theorem dX2_sizeUpper_11 : decode cX2_sizeUpper 11 = .ok (.aload_n 0, 1) := by decide +kernel
theorem dX2_sizeUpper_12 : decode cX2_sizeUpper 12 = .ok (.getfield 12, 3) := by decide +kernel
theorem dX2_sizeUpper_15 : decode cX2_sizeUpper 15 = .ok (.getfield 43, 3) := by decide +kernel
theorem dX2_sizeUpper_18 : decode cX2_sizeUpper 18 = .ok (.iload_n 2, 1) := by decide +kernel
theorem dX2_sizeUpper_19 : decode cX2_sizeUpper 19 = .ok (.iaload, 1) := by decide +kernel
theorem dX2_sizeUpper_20 : decode cX2_sizeUpper 20 = .ok (.aload_n 0, 1) := by decide +kernel
theorem dX2_sizeUpper_21 : decode cX2_sizeUpper 21 = .ok (.getfield 12, 3) := by decide +kernel
theorem dX2_sizeUpper_24 : decode cX2_sizeUpper 24 = .ok (.getfield 47, 3) := by decide +kernel
theorem dX2_sizeUpper_27 : decode cX2_sizeUpper 27 = .ok (.iload_n 2, 1) := by decide +kernel
theorem dX2_sizeUpper_28 : decode cX2_sizeUpper 28 = .ok (.iaload, 1) := by decide +kernel
theorem dX2_sizeUpper_29 : decode cX2_sizeUpper 29 = .ok (.invokevirtual 110, 3) := by decide +kernel
theorem dX2_sizeUpper_32 : decode cX2_sizeUpper 32 = .ok (.invokestatic 153, 3) := by decide +kernel
theorem dX2_sizeUpper_35 : decode cX2_sizeUpper 35 = .ok (.lreturn, 1) := by decide +kernel
set_option maxRecDepth 20000 in
theorem ggX2_worstSample_X2_isIn : GoodIn wsX2_worstSample wsX2_isIn := goodIn_r _ [8] (by decide +kernel) (by decide +kernel)
set_option maxRecDepth 20000 in
theorem gX2_worstSample_X2_isIn : GoodIn wsX2_worstSample (va_wsS RX2 67 yX2_isIn wsX2_isIn) := goodIn_app (goodIn_of _ (by decide +kernel)) ggX2_worstSample_X2_isIn
set_option maxRecDepth 20000 in
theorem ggX2_worstSample_X2_sizeUpper : GoodIn wsX2_worstSample wsX2_sizeUpper := goodIn_r _ [12, 2, 13, 14, 15, 16, 17, 18, 19, 20, 21, 7, 22, 23, 24, 25, 26, 27, 28, 29, 30, 31, 32, 33, 34, 35, 36, 37, 38, 39, 40, 41, 42, 43, 44, 45, 46, 47, 48, 49, 50, 51, 52, 53, 54, 55, 56, 57, 58, 59] (by decide +kernel) (by decide +kernel)
set_option maxRecDepth 20000 in
theorem gX2_worstSample_X2_sizeUpper : GoodIn wsX2_worstSample (wsV RX2 118 RX2 yX2_sizeUpper wsX2_sizeUpper) := goodIn_app (goodIn_of _ (by decide +kernel)) ggX2_worstSample_X2_sizeUpper
theorem dX2_worstSample_0 : decode cX2_worstSample 0 = .ok (.iconst 0, 1) := by decide +kernel
theorem dX2_worstSample_1 : decode cX2_worstSample 1 = .ok (.istore_n 1, 1) := by decide +kernel
theorem dX2_worstSample_2 : decode cX2_worstSample 2 = .ok (.ldc2_w 173, 3) := by decide +kernel
theorem dX2_worstSample_5 : decode cX2_worstSample 5 = .ok (.lstore_n 2, 1) := by decide +kernel
theorem dX2_worstSample_6 : decode cX2_worstSample 6 = .ok (.iconst 0, 1) := by decide +kernel
theorem dX2_worstSample_7 : decode cX2_worstSample 7 = .ok (.istore 4, 2) := by decide +kernel
theorem dX2_worstSample_9 : decode cX2_worstSample 9 = .ok (.iload 4, 2) := by decide +kernel
theorem dX2_worstSample_11 : decode cX2_worstSample 11 = .ok (.bipush 10, 2) := by decide +kernel
theorem dX2_worstSample_13 : decode cX2_worstSample 13 = .ok (.if_icmp .ge 49, 3) := by decide +kernel
theorem dX2_worstSample_16 : decode cX2_worstSample 16 = .ok (.aload_n 0, 1) := by decide +kernel
theorem dX2_worstSample_17 : decode cX2_worstSample 17 = .ok (.getfield 12, 3) := by decide +kernel
theorem dX2_worstSample_20 : decode cX2_worstSample 20 = .ok (.getfield 50, 3) := by decide +kernel
theorem dX2_worstSample_23 : decode cX2_worstSample 23 = .ok (.iload 4, 2) := by decide +kernel
theorem dX2_worstSample_25 : decode cX2_worstSample 25 = .ok (.invokestatic 67, 3) := by decide +kernel
theorem dX2_worstSample_28 : decode cX2_worstSample 28 = .ok (.ifCond .eq 28, 3) := by decide +kernel
theorem dX2_worstSample_31 : decode cX2_worstSample 31 = .ok (.aload_n 0, 1) := by decide +kernel
theorem dX2_worstSample_32 : decode cX2_worstSample 32 = .ok (.aload_n 0, 1) := by decide +kernel
theorem dX2_worstSample_33 : decode cX2_worstSample 33 = .ok (.getfield 29, 3) := by decide +kernel
theorem dX2_worstSample_36 : decode cX2_worstSample 36 = .ok (.iload 4, 2) := by decide +kernel
theorem dX2_worstSample_38 : decode cX2_worstSample 38 = .ok (.invokevirtual 118, 3) := by decide +kernel
theorem dX2_worstSample_41 : decode cX2_worstSample 41 = .ok (.lstore 5, 2) := by decide +kernel
theorem dX2_worstSample_43 : decode cX2_worstSample 43 = .ok (.lload 5, 2) := by decide +kernel
theorem dX2_worstSample_45 : decode cX2_worstSample 45 = .ok (.lload_n 2, 1) := by decide +kernel
theorem dX2_worstSample_46 : decode cX2_worstSample 46 = .ok (.lcmp, 1) := by decide +kernel
theorem dX2_worstSample_47 : decode cX2_worstSample 47 = .ok (.ifCond .le 9, 3) := by decide +kernel
theorem dX2_worstSample_50 : decode cX2_worstSample 50 = .ok (.lload 5, 2) := by decide +kernel
theorem dX2_worstSample_52 : decode cX2_worstSample 52 = .ok (.lstore_n 2, 1) := by decide +kernel
theorem dX2_worstSample_53 : decode cX2_worstSample 53 = .ok (.iload 4, 2) := by decide +kernel
theorem dX2_worstSample_55 : decode cX2_worstSample 55 = .ok (.istore_n 1, 1) := by decide +kernel
theorem dX2_worstSample_56 : decode cX2_worstSample 56 = .ok (.iinc 4 1, 3) := by decide +kernel
theorem dX2_worstSample_59 : decode cX2_worstSample 59 = .ok (.goto (-50), 3) := by decide +kernel
theorem dX2_worstSample_62 : decode cX2_worstSample 62 = .ok (.iload_n 1, 1) := by decide +kernel
theorem dX2_worstSample_63 : decode cX2_worstSample 63 = .ok (.ireturn, 1) := by decide +kernel
set_option maxRecDepth 20000 in
theorem ggX2_coverBy_X2_isIn : GoodIn wsX2_coverBy wsX2_isIn := goodIn_r _ [8] (by decide +kernel) (by decide +kernel)
set_option maxRecDepth 20000 in
theorem gX2_coverBy_X2_isIn : GoodIn wsX2_coverBy (va_wsS RX2 67 yX2_isIn wsX2_isIn) := goodIn_app (goodIn_of _ (by decide +kernel)) ggX2_coverBy_X2_isIn
set_option maxRecDepth 20000 in
theorem ggX2_coverBy_X0_eighthAt : GoodIn wsX2_coverBy wsX0_eighthAt := goodIn_r _ [13, 14, 15, 16, 17, 18, 19, 12, 20, 35, 36, 37, 38, 39, 40, 41, 42, 43, 44, 45, 46, 47] (by decide +kernel) (by decide +kernel)
set_option maxRecDepth 20000 in
theorem gX2_coverBy_X0_eighthAt : GoodIn wsX2_coverBy (wsV RX2 132 RX0 yX0_eighthAt wsX0_eighthAt) := goodIn_app (goodIn_of _ (by decide +kernel)) ggX2_coverBy_X0_eighthAt
set_option maxRecDepth 20000 in
theorem ggX2_coverBy_X2_setOfEighth : GoodIn wsX2_coverBy wsX2_setOfEighth := goodIn_r _ [23] (by decide +kernel) (by decide +kernel)
set_option maxRecDepth 20000 in
theorem gX2_coverBy_X2_setOfEighth : GoodIn wsX2_coverBy (va_wsS RX2 175 yX2_setOfEighth wsX2_setOfEighth) := goodIn_app (goodIn_of _ (by decide +kernel)) ggX2_coverBy_X2_setOfEighth
theorem dX2_coverBy_0 : decode cX2_coverBy 0 = .ok (.iconst 0, 1) := by decide +kernel
theorem dX2_coverBy_1 : decode cX2_coverBy 1 = .ok (.istore_n 2, 1) := by decide +kernel
theorem dX2_coverBy_2 : decode cX2_coverBy 2 = .ok (.iconst 0, 1) := by decide +kernel
theorem dX2_coverBy_3 : decode cX2_coverBy 3 = .ok (.istore_n 3, 1) := by decide +kernel
theorem dX2_coverBy_4 : decode cX2_coverBy 4 = .ok (.iload_n 3, 1) := by decide +kernel
theorem dX2_coverBy_5 : decode cX2_coverBy 5 = .ok (.bipush 10, 2) := by decide +kernel
theorem dX2_coverBy_7 : decode cX2_coverBy 7 = .ok (.if_icmp .ge 51, 3) := by decide +kernel
theorem dX2_coverBy_10 : decode cX2_coverBy 10 = .ok (.aload_n 0, 1) := by decide +kernel
theorem dX2_coverBy_11 : decode cX2_coverBy 11 = .ok (.getfield 12, 3) := by decide +kernel
theorem dX2_coverBy_14 : decode cX2_coverBy 14 = .ok (.getfield 50, 3) := by decide +kernel
theorem dX2_coverBy_17 : decode cX2_coverBy 17 = .ok (.iload_n 3, 1) := by decide +kernel
theorem dX2_coverBy_18 : decode cX2_coverBy 18 = .ok (.invokestatic 67, 3) := by decide +kernel
theorem dX2_coverBy_21 : decode cX2_coverBy 21 = .ok (.ifCond .eq 31, 3) := by decide +kernel
theorem dX2_coverBy_24 : decode cX2_coverBy 24 = .ok (.iload_n 2, 1) := by decide +kernel
theorem dX2_coverBy_25 : decode cX2_coverBy 25 = .ok (.aload_n 1, 1) := by decide +kernel
theorem dX2_coverBy_26 : decode cX2_coverBy 26 = .ok (.aload_n 0, 1) := by decide +kernel
theorem dX2_coverBy_27 : decode cX2_coverBy 27 = .ok (.getfield 12, 3) := by decide +kernel
theorem dX2_coverBy_30 : decode cX2_coverBy 30 = .ok (.getfield 43, 3) := by decide +kernel
theorem dX2_coverBy_33 : decode cX2_coverBy 33 = .ok (.iload_n 3, 1) := by decide +kernel
theorem dX2_coverBy_34 : decode cX2_coverBy 34 = .ok (.iaload, 1) := by decide +kernel
theorem dX2_coverBy_35 : decode cX2_coverBy 35 = .ok (.aload_n 0, 1) := by decide +kernel
theorem dX2_coverBy_36 : decode cX2_coverBy 36 = .ok (.getfield 12, 3) := by decide +kernel
theorem dX2_coverBy_39 : decode cX2_coverBy 39 = .ok (.getfield 47, 3) := by decide +kernel
theorem dX2_coverBy_42 : decode cX2_coverBy 42 = .ok (.iload_n 3, 1) := by decide +kernel
theorem dX2_coverBy_43 : decode cX2_coverBy 43 = .ok (.iaload, 1) := by decide +kernel
theorem dX2_coverBy_44 : decode cX2_coverBy 44 = .ok (.invokevirtual 132, 3) := by decide +kernel
theorem dX2_coverBy_47 : decode cX2_coverBy 47 = .ok (.invokestatic 175, 3) := by decide +kernel
theorem dX2_coverBy_50 : decode cX2_coverBy 50 = .ok (.ior, 1) := by decide +kernel
theorem dX2_coverBy_51 : decode cX2_coverBy 51 = .ok (.istore_n 2, 1) := by decide +kernel
theorem dX2_coverBy_52 : decode cX2_coverBy 52 = .ok (.iinc 3 1, 3) := by decide +kernel
theorem dX2_coverBy_55 : decode cX2_coverBy 55 = .ok (.goto (-51), 3) := by decide +kernel
theorem dX2_coverBy_58 : decode cX2_coverBy 58 = .ok (.iload_n 2, 1) := by decide +kernel
theorem dX2_coverBy_59 : decode cX2_coverBy 59 = .ok (.ireturn, 1) := by decide +kernel
theorem dX2_setOfEighth_0 : decode cX2_setOfEighth 0 = .ok (.iload_n 0, 1) := by decide +kernel
theorem dX2_setOfEighth_1 : decode cX2_setOfEighth 1 = .ok (.ifCond .lt 9, 3) := by decide +kernel
theorem dX2_setOfEighth_4 : decode cX2_setOfEighth 4 = .ok (.iconst 1, 1) := by decide +kernel
theorem dX2_setOfEighth_5 : decode cX2_setOfEighth 5 = .ok (.iload_n 0, 1) := by decide +kernel
theorem dX2_setOfEighth_6 : decode cX2_setOfEighth 6 = .ok (.ishl, 1) := by decide +kernel
theorem dX2_setOfEighth_7 : decode cX2_setOfEighth 7 = .ok (.goto 4, 3) := by decide +kernel
theorem dX2_setOfEighth_10 : decode cX2_setOfEighth 10 = .ok (.iconst 0, 1) := by decide +kernel
theorem dX2_setOfEighth_11 : decode cX2_setOfEighth 11 = .ok (.ireturn, 1) := by decide +kernel
set_option maxRecDepth 20000 in
theorem ggX2_isTheRoundPoor_X0_isFlat : GoodIn wsX2_isTheRoundPoor wsX0_isFlat := goodIn_r _ [8, 9, 52, 53, 54, 55, 56, 57, 58, 59, 60, 61, 62, 63, 64] (by decide +kernel) (by decide +kernel)
set_option maxRecDepth 20000 in
theorem gX2_isTheRoundPoor_X0_isFlat : GoodIn wsX2_isTheRoundPoor (wsV RX2 79 RX0 yX0_isFlat wsX0_isFlat) := goodIn_app (goodIn_of _ (by decide +kernel)) ggX2_isTheRoundPoor_X0_isFlat
set_option maxRecDepth 20000 in
theorem ggX2_isTheRoundPoor_X2_coverBy : GoodIn wsX2_isTheRoundPoor wsX2_coverBy := goodIn_r _ [14, 2, 15, 16, 17, 18, 19, 13, 20, 21, 22, 23, 7, 24, 25, 9, 26, 27, 28, 29, 30, 31, 32, 33, 41, 42, 43, 44, 45, 46, 47, 48, 49, 50, 51, 52, 53, 54, 55, 56, 57, 58, 59, 60, 61, 62, 63, 64] (by decide +kernel) (by decide +kernel)
set_option maxRecDepth 20000 in
theorem gX2_isTheRoundPoor_X2_coverBy : GoodIn wsX2_isTheRoundPoor (wsV RX2 125 RX2 yX2_coverBy wsX2_coverBy) := goodIn_app (goodIn_of _ (by decide +kernel)) ggX2_isTheRoundPoor_X2_coverBy
set_option maxRecDepth 20000 in
theorem ggX2_isTheRoundPoor_J6_bitCount_0f7a4 : GoodIn wsX2_isTheRoundPoor wsJ6_bitCount_0f7a4 := goodIn_r _ [37, 38, 39, 40] (by decide +kernel) (by decide +kernel)
set_option maxRecDepth 20000 in
theorem gX2_isTheRoundPoor_J6_bitCount_0f7a4 : GoodIn wsX2_isTheRoundPoor (va_wsS RX2 61 yJ6_bitCount_0f7a4 wsJ6_bitCount_0f7a4) := goodIn_app (goodIn_of _ (by decide +kernel)) ggX2_isTheRoundPoor_J6_bitCount_0f7a4
theorem dX2_isTheRoundPoor_0 : decode cX2_isTheRoundPoor 0 = .ok (.aload_n 0, 1) := by decide +kernel
theorem dX2_isTheRoundPoor_1 : decode cX2_isTheRoundPoor 1 = .ok (.getfield 29, 3) := by decide +kernel
theorem dX2_isTheRoundPoor_4 : decode cX2_isTheRoundPoor 4 = .ok (.invokevirtual 79, 3) := by decide +kernel
theorem dX2_isTheRoundPoor_7 : decode cX2_isTheRoundPoor 7 = .ok (.ifCond .ne 24, 3) := by decide +kernel
theorem dX2_isTheRoundPoor_10 : decode cX2_isTheRoundPoor 10 = .ok (.aload_n 0, 1) := by decide +kernel
theorem dX2_isTheRoundPoor_11 : decode cX2_isTheRoundPoor 11 = .ok (.aload_n 0, 1) := by decide +kernel
theorem dX2_isTheRoundPoor_12 : decode cX2_isTheRoundPoor 12 = .ok (.getfield 29, 3) := by decide +kernel
theorem dX2_isTheRoundPoor_15 : decode cX2_isTheRoundPoor 15 = .ok (.invokevirtual 125, 3) := by decide +kernel
theorem dX2_isTheRoundPoor_18 : decode cX2_isTheRoundPoor 18 = .ok (.invokestatic 61, 3) := by decide +kernel
theorem dX2_isTheRoundPoor_21 : decode cX2_isTheRoundPoor 21 = .ok (.aload_n 0, 1) := by decide +kernel
theorem dX2_isTheRoundPoor_22 : decode cX2_isTheRoundPoor 22 = .ok (.getfield 12, 3) := by decide +kernel
theorem dX2_isTheRoundPoor_25 : decode cX2_isTheRoundPoor 25 = .ok (.getfield 122, 3) := by decide +kernel
theorem dX2_isTheRoundPoor_28 : decode cX2_isTheRoundPoor 28 = .ok (.if_icmp .ge 7, 3) := by decide +kernel
theorem dX2_isTheRoundPoor_31 : decode cX2_isTheRoundPoor 31 = .ok (.iconst 1, 1) := by decide +kernel
theorem dX2_isTheRoundPoor_32 : decode cX2_isTheRoundPoor 32 = .ok (.goto 4, 3) := by decide +kernel
theorem dX2_isTheRoundPoor_35 : decode cX2_isTheRoundPoor 35 = .ok (.iconst 0, 1) := by decide +kernel
theorem dX2_isTheRoundPoor_36 : decode cX2_isTheRoundPoor 36 = .ok (.ireturn, 1) := by decide +kernel
set_option maxRecDepth 20000 in
theorem ggX2_helpAt_X0_startFrom : GoodIn wsX2_helpAt wsX0_startFrom := goodIn_r _ [9, 10, 11, 12, 13, 14, 15, 16, 17, 18, 77, 78, 79, 80, 81, 82, 83, 84, 85, 86, 87, 88, 89] (by decide +kernel) (by decide +kernel)
set_option maxRecDepth 20000 in
theorem gX2_helpAt_X0_startFrom : GoodIn wsX2_helpAt (wsV RX2 178 RX0 yX0_startFrom wsX0_startFrom) := goodIn_app (goodIn_of _ (by decide +kernel)) ggX2_helpAt_X0_startFrom
set_option maxRecDepth 20000 in
theorem ggX2_helpAt_X0_include : GoodIn wsX2_helpAt wsX0_include := goodIn_r _ [22, 10, 11, 12, 13, 14, 15, 16, 17, 18, 23, 24, 25, 77, 78, 79, 80, 81, 82, 83, 84, 85, 86, 87, 88, 89] (by decide +kernel) (by decide +kernel)
set_option maxRecDepth 20000 in
theorem gX2_helpAt_X0_include : GoodIn wsX2_helpAt (wsV RX2 169 RX0 yX0_include wsX0_include) := goodIn_app (goodIn_of _ (by decide +kernel)) ggX2_helpAt_X0_include
set_option maxRecDepth 20000 in
theorem ggX2_helpAt_X0_lay : GoodIn wsX2_helpAt wsX0_lay := goodIn_r _ [29, 10, 13, 11, 14, 12, 15, 17, 16, 18, 30, 31, 32, 33, 77, 78, 79, 80, 81, 82, 83, 84, 85, 86, 87, 88, 89] (by decide +kernel) (by decide +kernel)
set_option maxRecDepth 20000 in
theorem gX2_helpAt_X0_lay : GoodIn wsX2_helpAt (wsV RX2 163 RX0 yX0_lay wsX0_lay) := goodIn_app (goodIn_of _ (by decide +kernel)) ggX2_helpAt_X0_lay
set_option maxRecDepth 20000 in
theorem ggX2_helpAt_X0_isFlat : GoodIn wsX2_helpAt wsX0_isFlat := goodIn_r _ [37, 30, 77, 78, 79, 80, 81, 82, 83, 84, 85, 86, 87, 88, 89] (by decide +kernel) (by decide +kernel)
set_option maxRecDepth 20000 in
theorem gX2_helpAt_X0_isFlat : GoodIn wsX2_helpAt (wsV RX2 79 RX0 yX0_isFlat wsX0_isFlat) := goodIn_app (goodIn_of _ (by decide +kernel)) ggX2_helpAt_X0_isFlat
set_option maxRecDepth 20000 in
theorem ggX2_helpAt_X0_eighthAt : GoodIn wsX2_helpAt wsX0_eighthAt := goodIn_r _ [41, 42, 30, 31, 32, 43, 44, 8, 45, 77, 78, 79, 80, 81, 82, 83, 84, 85, 86, 87, 88, 89] (by decide +kernel) (by decide +kernel)
set_option maxRecDepth 20000 in
theorem gX2_helpAt_X0_eighthAt : GoodIn wsX2_helpAt (wsV RX2 132 RX0 yX0_eighthAt wsX0_eighthAt) := goodIn_app (goodIn_of _ (by decide +kernel)) ggX2_helpAt_X0_eighthAt
set_option maxRecDepth 20000 in
theorem ggX2_helpAt_X2_setOfEighth : GoodIn wsX2_helpAt wsX2_setOfEighth := goodIn_r _ [48] (by decide +kernel) (by decide +kernel)
set_option maxRecDepth 20000 in
theorem gX2_helpAt_X2_setOfEighth : GoodIn wsX2_helpAt (va_wsS RX2 175 yX2_setOfEighth wsX2_setOfEighth) := goodIn_app (goodIn_of _ (by decide +kernel)) ggX2_helpAt_X2_setOfEighth
set_option maxRecDepth 20000 in
theorem ggX2_helpAt_X2_coverBy : GoodIn wsX2_helpAt wsX2_coverBy := goodIn_r _ [52, 3, 53, 54, 55, 56, 57, 24, 58, 38, 39, 40, 8, 41, 42, 30, 31, 32, 43, 44, 45, 46, 47, 48, 66, 67, 68, 69, 70, 71, 72, 73, 74, 75, 76, 77, 78, 79, 80, 81, 82, 83, 84, 85, 86, 87, 88, 89] (by decide +kernel) (by decide +kernel)
set_option maxRecDepth 20000 in
theorem gX2_helpAt_X2_coverBy : GoodIn wsX2_helpAt (wsV RX2 125 RX2 yX2_coverBy wsX2_coverBy) := goodIn_app (goodIn_of _ (by decide +kernel)) ggX2_helpAt_X2_coverBy
set_option maxRecDepth 20000 in
theorem ggX2_helpAt_J6_bitCount_0f7a4 : GoodIn wsX2_helpAt wsJ6_bitCount_0f7a4 := goodIn_r _ [62, 63, 64, 65] (by decide +kernel) (by decide +kernel)
set_option maxRecDepth 20000 in
theorem gX2_helpAt_J6_bitCount_0f7a4 : GoodIn wsX2_helpAt (va_wsS RX2 61 yJ6_bitCount_0f7a4 wsJ6_bitCount_0f7a4) := goodIn_app (goodIn_of _ (by decide +kernel)) ggX2_helpAt_J6_bitCount_0f7a4
theorem dX2_helpAt_0 : decode cX2_helpAt 0 = .ok (.aload_n 0, 1) := by decide +kernel
theorem dX2_helpAt_1 : decode cX2_helpAt 1 = .ok (.getfield 33, 3) := by decide +kernel
theorem dX2_helpAt_4 : decode cX2_helpAt 4 = .ok (.aload_n 0, 1) := by decide +kernel
theorem dX2_helpAt_5 : decode cX2_helpAt 5 = .ok (.getfield 29, 3) := by decide +kernel
theorem dX2_helpAt_8 : decode cX2_helpAt 8 = .ok (.invokevirtual 178, 3) := by decide +kernel
theorem dX2_helpAt_11 : decode cX2_helpAt 11 = .ok (.aload_n 0, 1) := by decide +kernel
theorem dX2_helpAt_12 : decode cX2_helpAt 12 = .ok (.getfield 33, 3) := by decide +kernel
theorem dX2_helpAt_15 : decode cX2_helpAt 15 = .ok (.iload_n 1, 1) := by decide +kernel
theorem dX2_helpAt_16 : decode cX2_helpAt 16 = .ok (.iload_n 2, 1) := by decide +kernel
theorem dX2_helpAt_17 : decode cX2_helpAt 17 = .ok (.invokevirtual 169, 3) := by decide +kernel
theorem dX2_helpAt_20 : decode cX2_helpAt 20 = .ok (.aload_n 0, 1) := by decide +kernel
theorem dX2_helpAt_21 : decode cX2_helpAt 21 = .ok (.getfield 33, 3) := by decide +kernel
theorem dX2_helpAt_24 : decode cX2_helpAt 24 = .ok (.invokevirtual 163, 3) := by decide +kernel
theorem dX2_helpAt_27 : decode cX2_helpAt 27 = .ok (.aload_n 0, 1) := by decide +kernel
theorem dX2_helpAt_28 : decode cX2_helpAt 28 = .ok (.getfield 33, 3) := by decide +kernel
theorem dX2_helpAt_31 : decode cX2_helpAt 31 = .ok (.invokevirtual 79, 3) := by decide +kernel
theorem dX2_helpAt_34 : decode cX2_helpAt 34 = .ok (.ifCond .eq 5, 3) := by decide +kernel
theorem dX2_helpAt_37 : decode cX2_helpAt 37 = .ok (.iconst 0, 1) := by decide +kernel
theorem dX2_helpAt_38 : decode cX2_helpAt 38 = .ok (.ireturn, 1) := by decide +kernel
theorem dX2_helpAt_39 : decode cX2_helpAt 39 = .ok (.aload_n 0, 1) := by decide +kernel
theorem dX2_helpAt_40 : decode cX2_helpAt 40 = .ok (.getfield 33, 3) := by decide +kernel
theorem dX2_helpAt_43 : decode cX2_helpAt 43 = .ok (.iload_n 1, 1) := by decide +kernel
theorem dX2_helpAt_44 : decode cX2_helpAt 44 = .ok (.iload_n 2, 1) := by decide +kernel
theorem dX2_helpAt_45 : decode cX2_helpAt 45 = .ok (.invokevirtual 132, 3) := by decide +kernel
theorem dX2_helpAt_48 : decode cX2_helpAt 48 = .ok (.invokestatic 175, 3) := by decide +kernel
theorem dX2_helpAt_51 : decode cX2_helpAt 51 = .ok (.istore 4, 2) := by decide +kernel
theorem dX2_helpAt_53 : decode cX2_helpAt 53 = .ok (.iload 4, 2) := by decide +kernel
theorem dX2_helpAt_55 : decode cX2_helpAt 55 = .ok (.iload_n 3, 1) := by decide +kernel
theorem dX2_helpAt_56 : decode cX2_helpAt 56 = .ok (.iconst (-1), 1) := by decide +kernel
theorem dX2_helpAt_57 : decode cX2_helpAt 57 = .ok (.ixor, 1) := by decide +kernel
theorem dX2_helpAt_58 : decode cX2_helpAt 58 = .ok (.iand, 1) := by decide +kernel
theorem dX2_helpAt_59 : decode cX2_helpAt 59 = .ok (.ifCond .ne 5, 3) := by decide +kernel
theorem dX2_helpAt_62 : decode cX2_helpAt 62 = .ok (.iconst 0, 1) := by decide +kernel
theorem dX2_helpAt_63 : decode cX2_helpAt 63 = .ok (.ireturn, 1) := by decide +kernel
theorem dX2_helpAt_64 : decode cX2_helpAt 64 = .ok (.iload 4, 2) := by decide +kernel
theorem dX2_helpAt_66 : decode cX2_helpAt 66 = .ok (.aload_n 0, 1) := by decide +kernel
theorem dX2_helpAt_67 : decode cX2_helpAt 67 = .ok (.aload_n 0, 1) := by decide +kernel
theorem dX2_helpAt_68 : decode cX2_helpAt 68 = .ok (.getfield 33, 3) := by decide +kernel
theorem dX2_helpAt_71 : decode cX2_helpAt 71 = .ok (.invokevirtual 125, 3) := by decide +kernel
theorem dX2_helpAt_74 : decode cX2_helpAt 74 = .ok (.ior, 1) := by decide +kernel
theorem dX2_helpAt_75 : decode cX2_helpAt 75 = .ok (.invokestatic 61, 3) := by decide +kernel
theorem dX2_helpAt_78 : decode cX2_helpAt 78 = .ok (.istore 5, 2) := by decide +kernel
theorem dX2_helpAt_80 : decode cX2_helpAt 80 = .ok (.iload 5, 2) := by decide +kernel
theorem dX2_helpAt_82 : decode cX2_helpAt 82 = .ok (.aload_n 0, 1) := by decide +kernel
theorem dX2_helpAt_83 : decode cX2_helpAt 83 = .ok (.getfield 12, 3) := by decide +kernel
theorem dX2_helpAt_86 : decode cX2_helpAt 86 = .ok (.getfield 122, 3) := by decide +kernel
theorem dX2_helpAt_89 : decode cX2_helpAt 89 = .ok (.if_icmp .lt 8, 3) := by decide +kernel
theorem dX2_helpAt_92 : decode cX2_helpAt 92 = .ok (.iload 4, 2) := by decide +kernel
theorem dX2_helpAt_94 : decode cX2_helpAt 94 = .ok (.goto 4, 3) := by decide +kernel
theorem dX2_helpAt_97 : decode cX2_helpAt 97 = .ok (.iconst 0, 1) := by decide +kernel
theorem dX2_helpAt_98 : decode cX2_helpAt 98 = .ok (.ireturn, 1) := by decide +kernel
set_option maxRecDepth 20000 in
theorem ggX2_isToTrim_J6_bitCount_0f7a4 : GoodIn wsX2_isToTrim wsJ6_bitCount_0f7a4 := goodIn_r _ [7, 8, 9, 10] (by decide +kernel) (by decide +kernel)
set_option maxRecDepth 20000 in
theorem gX2_isToTrim_J6_bitCount_0f7a4 : GoodIn wsX2_isToTrim (va_wsS RX2 61 yJ6_bitCount_0f7a4 wsJ6_bitCount_0f7a4) := goodIn_app (goodIn_of _ (by decide +kernel)) ggX2_isToTrim_J6_bitCount_0f7a4
set_option maxRecDepth 20000 in
theorem ggX2_isToTrim_X0_isFlat : GoodIn wsX2_isToTrim wsX0_isFlat := goodIn_r _ [15, 16, 70, 71, 72, 73, 74, 75, 76, 77, 78, 79, 80, 81, 82] (by decide +kernel) (by decide +kernel)
set_option maxRecDepth 20000 in
theorem gX2_isToTrim_X0_isFlat : GoodIn wsX2_isToTrim (wsV RX2 79 RX0 yX0_isFlat wsX0_isFlat) := goodIn_app (goodIn_of _ (by decide +kernel)) ggX2_isToTrim_X0_isFlat
set_option maxRecDepth 20000 in
theorem ggX2_isToTrim_X2_worstSample : GoodIn wsX2_isToTrim wsX2_worstSample := goodIn_r _ [21, 22, 1, 2, 3, 23, 24, 20, 25, 26, 27, 28, 29, 30, 31, 32, 33, 34, 35, 36, 37, 38, 39, 40, 41, 42, 43, 14, 44, 45, 16, 46, 47, 48, 49, 50, 59, 60, 61, 62, 63, 64, 65, 66, 67, 68, 69, 70, 71, 72, 73, 74, 75, 76, 77, 78, 79, 80, 81, 82] (by decide +kernel) (by decide +kernel)
set_option maxRecDepth 20000 in
theorem gX2_isToTrim_X2_worstSample : GoodIn wsX2_isToTrim (wsV RX2 114 RX2 yX2_worstSample wsX2_worstSample) := goodIn_app (goodIn_of _ (by decide +kernel)) ggX2_isToTrim_X2_worstSample
set_option maxRecDepth 20000 in
theorem ggX2_isToTrim_X2_isSizeAbove : GoodIn wsX2_isToTrim wsX2_isSizeAbove := goodIn_r _ [54, 26, 27, 28, 20, 29, 1, 30, 31, 32, 33, 34, 35, 36, 37, 38, 39, 40, 41, 42, 43, 14, 44, 45, 16, 46, 47, 48, 49, 50, 55, 56, 57, 58, 59, 60, 61, 62, 63, 64, 65, 66, 67, 68, 69, 70, 71, 72, 73, 74, 75, 76, 77, 78, 79, 80, 81, 82] (by decide +kernel) (by decide +kernel)
set_option maxRecDepth 20000 in
theorem gX2_isToTrim_X2_isSizeAbove : GoodIn wsX2_isToTrim (wsV RX2 182 RX2 yX2_isSizeAbove wsX2_isSizeAbove) := goodIn_app (goodIn_of _ (by decide +kernel)) ggX2_isToTrim_X2_isSizeAbove
theorem dX2_isToTrim_0 : decode cX2_isToTrim 0 = .ok (.aload_n 0, 1) := by decide +kernel
theorem dX2_isToTrim_1 : decode cX2_isToTrim 1 = .ok (.getfield 12, 3) := by decide +kernel
theorem dX2_isToTrim_4 : decode cX2_isToTrim 4 = .ok (.getfield 50, 3) := by decide +kernel
theorem dX2_isToTrim_7 : decode cX2_isToTrim 7 = .ok (.invokestatic 61, 3) := by decide +kernel
theorem dX2_isToTrim_10 : decode cX2_isToTrim 10 = .ok (.iconst 4, 1) := by decide +kernel
theorem dX2_isToTrim_11 : decode cX2_isToTrim 11 = .ok (.if_icmp .le 33, 3) := by decide +kernel
theorem dX2_isToTrim_14 : decode cX2_isToTrim 14 = .ok (.aload_n 0, 1) := by decide +kernel
theorem dX2_isToTrim_15 : decode cX2_isToTrim 15 = .ok (.getfield 29, 3) := by decide +kernel
theorem dX2_isToTrim_18 : decode cX2_isToTrim 18 = .ok (.invokevirtual 79, 3) := by decide +kernel
theorem dX2_isToTrim_21 : decode cX2_isToTrim 21 = .ok (.ifCond .ne 23, 3) := by decide +kernel
theorem dX2_isToTrim_24 : decode cX2_isToTrim 24 = .ok (.aload_n 0, 1) := by decide +kernel
theorem dX2_isToTrim_25 : decode cX2_isToTrim 25 = .ok (.aload_n 0, 1) := by decide +kernel
theorem dX2_isToTrim_26 : decode cX2_isToTrim 26 = .ok (.getfield 29, 3) := by decide +kernel
theorem dX2_isToTrim_29 : decode cX2_isToTrim 29 = .ok (.aload_n 0, 1) := by decide +kernel
theorem dX2_isToTrim_30 : decode cX2_isToTrim 30 = .ok (.invokevirtual 114, 3) := by decide +kernel
theorem dX2_isToTrim_33 : decode cX2_isToTrim 33 = .ok (.iload_n 1, 1) := by decide +kernel
theorem dX2_isToTrim_34 : decode cX2_isToTrim 34 = .ok (.invokevirtual 182, 3) := by decide +kernel
theorem dX2_isToTrim_37 : decode cX2_isToTrim 37 = .ok (.ifCond .eq 7, 3) := by decide +kernel
theorem dX2_isToTrim_40 : decode cX2_isToTrim 40 = .ok (.iconst 1, 1) := by decide +kernel
theorem dX2_isToTrim_41 : decode cX2_isToTrim 41 = .ok (.goto 4, 3) := by decide +kernel
theorem dX2_isToTrim_44 : decode cX2_isToTrim 44 = .ok (.iconst 0, 1) := by decide +kernel
theorem dX2_isToTrim_45 : decode cX2_isToTrim 45 = .ok (.ireturn, 1) := by decide +kernel
set_option maxRecDepth 20000 in
theorem ggX2_isSizeAbove_X2_sizeUpper : GoodIn wsX2_isSizeAbove wsX2_sizeUpper := goodIn_r _ [5, 6, 7, 8, 9, 10, 11, 12, 13, 14, 15, 4, 16, 17, 18, 19, 20, 21, 22, 23, 24, 25, 26, 27, 28, 29, 34, 35, 36, 37, 38, 39, 40, 41, 42, 43, 44, 45, 46, 47, 48, 49, 50, 51, 52, 53, 54, 55, 56, 57] (by decide +kernel) (by decide +kernel)
set_option maxRecDepth 20000 in
theorem gX2_isSizeAbove_X2_sizeUpper : GoodIn wsX2_isSizeAbove (wsV RX2 118 RX2 yX2_sizeUpper wsX2_sizeUpper) := goodIn_app (goodIn_of _ (by decide +kernel)) ggX2_isSizeAbove_X2_sizeUpper
set_option maxRecDepth 20000 in
theorem ggX2_isSizeAbove_X0_fullLower : GoodIn wsX2_isSizeAbove wsX0_fullLower := goodIn_r _ [33, 23, 24, 45, 46, 47, 48, 49, 50, 51, 52, 53, 54, 55, 56, 57] (by decide +kernel) (by decide +kernel)
set_option maxRecDepth 20000 in
theorem gX2_isSizeAbove_X0_fullLower : GoodIn wsX2_isSizeAbove (wsV RX2 89 RX0 yX0_fullLower wsX0_fullLower) := goodIn_app (goodIn_of _ (by decide +kernel)) ggX2_isSizeAbove_X0_fullLower
theorem dX2_isSizeAbove_0 : decode cX2_isSizeAbove 0 = .ok (.aload_n 0, 1) := by decide +kernel
theorem dX2_isSizeAbove_1 : decode cX2_isSizeAbove 1 = .ok (.aload_n 1, 1) := by decide +kernel
theorem dX2_isSizeAbove_2 : decode cX2_isSizeAbove 2 = .ok (.iload_n 2, 1) := by decide +kernel
theorem dX2_isSizeAbove_3 : decode cX2_isSizeAbove 3 = .ok (.invokevirtual 118, 3) := by decide +kernel
theorem dX2_isSizeAbove_6 : decode cX2_isSizeAbove 6 = .ok (.iload_n 3, 1) := by decide +kernel
theorem dX2_isSizeAbove_7 : decode cX2_isSizeAbove 7 = .ok (.i2l, 1) := by decide +kernel
theorem dX2_isSizeAbove_8 : decode cX2_isSizeAbove 8 = .ok (.aload_n 1, 1) := by decide +kernel
theorem dX2_isSizeAbove_9 : decode cX2_isSizeAbove 9 = .ok (.invokevirtual 89, 3) := by decide +kernel
theorem dX2_isSizeAbove_12 : decode cX2_isSizeAbove 12 = .ok (.lmul, 1) := by decide +kernel
theorem dX2_isSizeAbove_13 : decode cX2_isSizeAbove 13 = .ok (.lcmp, 1) := by decide +kernel
theorem dX2_isSizeAbove_14 : decode cX2_isSizeAbove 14 = .ok (.ifCond .le 7, 3) := by decide +kernel
theorem dX2_isSizeAbove_17 : decode cX2_isSizeAbove 17 = .ok (.iconst 1, 1) := by decide +kernel
theorem dX2_isSizeAbove_18 : decode cX2_isSizeAbove 18 = .ok (.goto 4, 3) := by decide +kernel
theorem dX2_isSizeAbove_21 : decode cX2_isSizeAbove 21 = .ok (.iconst 0, 1) := by decide +kernel
theorem dX2_isSizeAbove_22 : decode cX2_isSizeAbove 22 = .ok (.ireturn, 1) := by decide +kernel
set_option maxRecDepth 20000 in
theorem ggX2_leastSetToLeaveOut_J6_bitCount_0f7a4 : GoodIn wsX2_leastSetToLeaveOut wsJ6_bitCount_0f7a4 := goodIn_r _ [6, 7, 8, 9] (by decide +kernel) (by decide +kernel)
set_option maxRecDepth 20000 in
theorem gX2_leastSetToLeaveOut_J6_bitCount_0f7a4 : GoodIn wsX2_leastSetToLeaveOut (va_wsS RX2 61 yJ6_bitCount_0f7a4 wsJ6_bitCount_0f7a4) := goodIn_app (goodIn_of _ (by decide +kernel)) ggX2_leastSetToLeaveOut_J6_bitCount_0f7a4
set_option maxRecDepth 20000 in
theorem ggX2_leastSetToLeaveOut_X2_isWithin : GoodIn wsX2_leastSetToLeaveOut wsX2_isWithin := goodIn_r _ [14, 15, 16, 17, 18, 13, 19, 1, 20, 21, 22, 23, 24, 25, 26, 27, 28, 29, 30, 31, 32, 33, 34, 35, 36, 37, 38, 39, 40, 41, 42, 43, 44, 45, 46, 47, 48, 49, 50, 51, 52, 53, 54, 55, 56, 57, 58, 59, 60, 61, 62, 63, 64, 65, 66, 67, 68, 69, 70, 71, 72, 73, 74, 75, 76, 77, 78, 79, 80, 81, 82, 83, 84, 85, 86, 87, 88, 89, 90, 91, 92, 93, 94, 95, 96, 97, 98, 99, 100, 101, 102, 103, 104, 105] (by decide +kernel) (by decide +kernel)
set_option maxRecDepth 20000 in
theorem gX2_leastSetToLeaveOut_X2_isWithin : GoodIn wsX2_leastSetToLeaveOut (wsV RX2 186 RX2 yX2_isWithin wsX2_isWithin) := goodIn_app (goodIn_of _ (by decide +kernel)) ggX2_leastSetToLeaveOut_X2_isWithin
theorem dX2_leastSetToLeaveOut_0 : decode cX2_leastSetToLeaveOut 0 = .ok (.iconst 0, 1) := by decide +kernel
theorem dX2_leastSetToLeaveOut_1 : decode cX2_leastSetToLeaveOut 1 = .ok (.istore_n 3, 1) := by decide +kernel
theorem dX2_leastSetToLeaveOut_2 : decode cX2_leastSetToLeaveOut 2 = .ok (.iload_n 3, 1) := by decide +kernel
theorem dX2_leastSetToLeaveOut_3 : decode cX2_leastSetToLeaveOut 3 = .ok (.sipush 1024, 3) := by decide +kernel
theorem dX2_leastSetToLeaveOut_6 : decode cX2_leastSetToLeaveOut 6 = .ok (.if_icmp .ge 64, 3) := by decide +kernel
theorem dX2_leastSetToLeaveOut_9 : decode cX2_leastSetToLeaveOut 9 = .ok (.iload_n 3, 1) := by decide +kernel
theorem dX2_leastSetToLeaveOut_10 : decode cX2_leastSetToLeaveOut 10 = .ok (.invokestatic 61, 3) := by decide +kernel
theorem dX2_leastSetToLeaveOut_13 : decode cX2_leastSetToLeaveOut 13 = .ok (.iload_n 1, 1) := by decide +kernel
theorem dX2_leastSetToLeaveOut_14 : decode cX2_leastSetToLeaveOut 14 = .ok (.if_icmp .ne 21, 3) := by decide +kernel
theorem dX2_leastSetToLeaveOut_17 : decode cX2_leastSetToLeaveOut 17 = .ok (.iload_n 3, 1) := by decide +kernel
theorem dX2_leastSetToLeaveOut_18 : decode cX2_leastSetToLeaveOut 18 = .ok (.aload_n 0, 1) := by decide +kernel
theorem dX2_leastSetToLeaveOut_19 : decode cX2_leastSetToLeaveOut 19 = .ok (.getfield 12, 3) := by decide +kernel
theorem dX2_leastSetToLeaveOut_22 : decode cX2_leastSetToLeaveOut 22 = .ok (.getfield 50, 3) := by decide +kernel
theorem dX2_leastSetToLeaveOut_25 : decode cX2_leastSetToLeaveOut 25 = .ok (.iconst (-1), 1) := by decide +kernel
theorem dX2_leastSetToLeaveOut_26 : decode cX2_leastSetToLeaveOut 26 = .ok (.ixor, 1) := by decide +kernel
theorem dX2_leastSetToLeaveOut_27 : decode cX2_leastSetToLeaveOut 27 = .ok (.iand, 1) := by decide +kernel
theorem dX2_leastSetToLeaveOut_28 : decode cX2_leastSetToLeaveOut 28 = .ok (.ifCond .ne 7, 3) := by decide +kernel
theorem dX2_leastSetToLeaveOut_31 : decode cX2_leastSetToLeaveOut 31 = .ok (.iconst 1, 1) := by decide +kernel
theorem dX2_leastSetToLeaveOut_32 : decode cX2_leastSetToLeaveOut 32 = .ok (.goto 4, 3) := by decide +kernel
theorem dX2_leastSetToLeaveOut_35 : decode cX2_leastSetToLeaveOut 35 = .ok (.iconst 0, 1) := by decide +kernel
theorem dX2_leastSetToLeaveOut_36 : decode cX2_leastSetToLeaveOut 36 = .ok (.istore 4, 2) := by decide +kernel
theorem dX2_leastSetToLeaveOut_38 : decode cX2_leastSetToLeaveOut 38 = .ok (.iload 4, 2) := by decide +kernel
theorem dX2_leastSetToLeaveOut_40 : decode cX2_leastSetToLeaveOut 40 = .ok (.ifCond .eq 24, 3) := by decide +kernel
theorem dX2_leastSetToLeaveOut_43 : decode cX2_leastSetToLeaveOut 43 = .ok (.aload_n 0, 1) := by decide +kernel
theorem dX2_leastSetToLeaveOut_44 : decode cX2_leastSetToLeaveOut 44 = .ok (.aload_n 0, 1) := by decide +kernel
theorem dX2_leastSetToLeaveOut_45 : decode cX2_leastSetToLeaveOut 45 = .ok (.getfield 12, 3) := by decide +kernel
theorem dX2_leastSetToLeaveOut_48 : decode cX2_leastSetToLeaveOut 48 = .ok (.getfield 50, 3) := by decide +kernel
theorem dX2_leastSetToLeaveOut_51 : decode cX2_leastSetToLeaveOut 51 = .ok (.iload_n 3, 1) := by decide +kernel
theorem dX2_leastSetToLeaveOut_52 : decode cX2_leastSetToLeaveOut 52 = .ok (.iconst (-1), 1) := by decide +kernel
theorem dX2_leastSetToLeaveOut_53 : decode cX2_leastSetToLeaveOut 53 = .ok (.ixor, 1) := by decide +kernel
theorem dX2_leastSetToLeaveOut_54 : decode cX2_leastSetToLeaveOut 54 = .ok (.iand, 1) := by decide +kernel
theorem dX2_leastSetToLeaveOut_55 : decode cX2_leastSetToLeaveOut 55 = .ok (.iload_n 2, 1) := by decide +kernel
theorem dX2_leastSetToLeaveOut_56 : decode cX2_leastSetToLeaveOut 56 = .ok (.invokevirtual 186, 3) := by decide +kernel
theorem dX2_leastSetToLeaveOut_59 : decode cX2_leastSetToLeaveOut 59 = .ok (.ifCond .eq 5, 3) := by decide +kernel
theorem dX2_leastSetToLeaveOut_62 : decode cX2_leastSetToLeaveOut 62 = .ok (.iload_n 3, 1) := by decide +kernel
theorem dX2_leastSetToLeaveOut_63 : decode cX2_leastSetToLeaveOut 63 = .ok (.ireturn, 1) := by decide +kernel
theorem dX2_leastSetToLeaveOut_64 : decode cX2_leastSetToLeaveOut 64 = .ok (.iinc 3 1, 3) := by decide +kernel
theorem dX2_leastSetToLeaveOut_67 : decode cX2_leastSetToLeaveOut 67 = .ok (.goto (-65), 3) := by decide +kernel
theorem dX2_leastSetToLeaveOut_70 : decode cX2_leastSetToLeaveOut 70 = .ok (.bipush (-6), 2) := by decide +kernel
theorem dX2_leastSetToLeaveOut_72 : decode cX2_leastSetToLeaveOut 72 = .ok (.ireturn, 1) := by decide +kernel
set_option maxRecDepth 20000 in
theorem ggX2_isWithin_X2_sumUp : GoodIn wsX2_isWithin wsX2_sumUp := goodIn_r _ [6, 7, 8, 9, 10, 11, 12, 13, 14, 15, 16, 17, 18, 19, 20, 21, 22, 23, 24, 25, 5, 26, 27, 28, 29, 30, 31, 32, 70, 71, 72, 73, 74, 75, 76, 77, 78, 79, 80, 81, 82, 83, 84, 85, 86, 87, 88, 89, 90, 91, 92, 93] (by decide +kernel) (by decide +kernel)
set_option maxRecDepth 20000 in
theorem gX2_isWithin_X2_sumUp : GoodIn wsX2_isWithin (wsV RX2 135 RX2 yX2_sumUp wsX2_sumUp) := goodIn_app (goodIn_of _ (by decide +kernel)) ggX2_isWithin_X2_sumUp
set_option maxRecDepth 20000 in
theorem ggX2_isWithin_X0_lay : GoodIn wsX2_isWithin wsX0_lay := goodIn_r _ [36, 15, 18, 16, 19, 17, 20, 22, 21, 23, 37, 38, 39, 40, 81, 82, 83, 84, 85, 86, 87, 88, 89, 90, 91, 92, 93] (by decide +kernel) (by decide +kernel)
set_option maxRecDepth 20000 in
theorem gX2_isWithin_X0_lay : GoodIn wsX2_isWithin (wsV RX2 163 RX0 yX0_lay wsX0_lay) := goodIn_app (goodIn_of _ (by decide +kernel)) ggX2_isWithin_X0_lay
set_option maxRecDepth 20000 in
theorem ggX2_isWithin_X0_isFlat : GoodIn wsX2_isWithin wsX0_isFlat := goodIn_r _ [44, 37, 81, 82, 83, 84, 85, 86, 87, 88, 89, 90, 91, 92, 93] (by decide +kernel) (by decide +kernel)
set_option maxRecDepth 20000 in
theorem gX2_isWithin_X0_isFlat : GoodIn wsX2_isWithin (wsV RX2 79 RX0 yX0_isFlat wsX0_isFlat) := goodIn_app (goodIn_of _ (by decide +kernel)) ggX2_isWithin_X0_isFlat
set_option maxRecDepth 20000 in
theorem ggX2_isWithin_X2_isIn : GoodIn wsX2_isWithin wsX2_isIn := goodIn_r _ [26] (by decide +kernel) (by decide +kernel)
set_option maxRecDepth 20000 in
theorem gX2_isWithin_X2_isIn : GoodIn wsX2_isWithin (va_wsS RX2 67 yX2_isIn wsX2_isIn) := goodIn_app (goodIn_of _ (by decide +kernel)) ggX2_isWithin_X2_isIn
set_option maxRecDepth 20000 in
theorem ggX2_isWithin_X2_isSizeAbove : GoodIn wsX2_isWithin wsX2_isSizeAbove := goodIn_r _ [48, 49, 50, 51, 5, 52, 7, 8, 9, 53, 54, 55, 56, 57, 58, 59, 60, 61, 62, 63, 64, 13, 65, 15, 37, 38, 39, 40, 31, 32, 66, 67, 68, 69, 70, 71, 72, 73, 74, 75, 76, 77, 78, 79, 80, 81, 82, 83, 84, 85, 86, 87, 88, 89, 90, 91, 92, 93] (by decide +kernel) (by decide +kernel)
set_option maxRecDepth 20000 in
theorem gX2_isWithin_X2_isSizeAbove : GoodIn wsX2_isWithin (wsV RX2 182 RX2 yX2_isSizeAbove wsX2_isSizeAbove) := goodIn_app (goodIn_of _ (by decide +kernel)) ggX2_isWithin_X2_isSizeAbove
theorem dX2_isWithin_0 : decode cX2_isWithin 0 = .ok (.aload_n 0, 1) := by decide +kernel
theorem dX2_isWithin_1 : decode cX2_isWithin 1 = .ok (.aload_n 0, 1) := by decide +kernel
theorem dX2_isWithin_2 : decode cX2_isWithin 2 = .ok (.getfield 33, 3) := by decide +kernel
theorem dX2_isWithin_5 : decode cX2_isWithin 5 = .ok (.iload_n 1, 1) := by decide +kernel
theorem dX2_isWithin_6 : decode cX2_isWithin 6 = .ok (.invokevirtual 135, 3) := by decide +kernel
theorem dX2_isWithin_9 : decode cX2_isWithin 9 = .ok (.aload_n 0, 1) := by decide +kernel
theorem dX2_isWithin_10 : decode cX2_isWithin 10 = .ok (.getfield 33, 3) := by decide +kernel
theorem dX2_isWithin_13 : decode cX2_isWithin 13 = .ok (.invokevirtual 163, 3) := by decide +kernel
theorem dX2_isWithin_16 : decode cX2_isWithin 16 = .ok (.aload_n 0, 1) := by decide +kernel
theorem dX2_isWithin_17 : decode cX2_isWithin 17 = .ok (.getfield 33, 3) := by decide +kernel
theorem dX2_isWithin_20 : decode cX2_isWithin 20 = .ok (.invokevirtual 79, 3) := by decide +kernel
theorem dX2_isWithin_23 : decode cX2_isWithin 23 = .ok (.ifCond .eq 5, 3) := by decide +kernel
theorem dX2_isWithin_26 : decode cX2_isWithin 26 = .ok (.iconst 0, 1) := by decide +kernel
theorem dX2_isWithin_27 : decode cX2_isWithin 27 = .ok (.ireturn, 1) := by decide +kernel
theorem dX2_isWithin_28 : decode cX2_isWithin 28 = .ok (.iconst 0, 1) := by decide +kernel
theorem dX2_isWithin_29 : decode cX2_isWithin 29 = .ok (.istore_n 3, 1) := by decide +kernel
theorem dX2_isWithin_30 : decode cX2_isWithin 30 = .ok (.iload_n 3, 1) := by decide +kernel
theorem dX2_isWithin_31 : decode cX2_isWithin 31 = .ok (.bipush 10, 2) := by decide +kernel
theorem dX2_isWithin_33 : decode cX2_isWithin 33 = .ok (.if_icmp .ge 32, 3) := by decide +kernel
theorem dX2_isWithin_36 : decode cX2_isWithin 36 = .ok (.iload_n 1, 1) := by decide +kernel
theorem dX2_isWithin_37 : decode cX2_isWithin 37 = .ok (.iload_n 3, 1) := by decide +kernel
theorem dX2_isWithin_38 : decode cX2_isWithin 38 = .ok (.invokestatic 67, 3) := by decide +kernel
theorem dX2_isWithin_41 : decode cX2_isWithin 41 = .ok (.ifCond .eq 18, 3) := by decide +kernel
theorem dX2_isWithin_44 : decode cX2_isWithin 44 = .ok (.aload_n 0, 1) := by decide +kernel
theorem dX2_isWithin_45 : decode cX2_isWithin 45 = .ok (.aload_n 0, 1) := by decide +kernel
theorem dX2_isWithin_46 : decode cX2_isWithin 46 = .ok (.getfield 33, 3) := by decide +kernel
theorem dX2_isWithin_49 : decode cX2_isWithin 49 = .ok (.iload_n 3, 1) := by decide +kernel
theorem dX2_isWithin_50 : decode cX2_isWithin 50 = .ok (.iload_n 2, 1) := by decide +kernel
theorem dX2_isWithin_51 : decode cX2_isWithin 51 = .ok (.invokevirtual 182, 3) := by decide +kernel
theorem dX2_isWithin_54 : decode cX2_isWithin 54 = .ok (.ifCond .eq 5, 3) := by decide +kernel
theorem dX2_isWithin_57 : decode cX2_isWithin 57 = .ok (.iconst 0, 1) := by decide +kernel
theorem dX2_isWithin_58 : decode cX2_isWithin 58 = .ok (.ireturn, 1) := by decide +kernel
theorem dX2_isWithin_59 : decode cX2_isWithin 59 = .ok (.iinc 3 1, 3) := by decide +kernel
theorem dX2_isWithin_62 : decode cX2_isWithin 62 = .ok (.goto (-32), 3) := by decide +kernel
theorem dX2_isWithin_65 : decode cX2_isWithin 65 = .ok (.iconst 1, 1) := by decide +kernel
theorem dX2_isWithin_66 : decode cX2_isWithin 66 = .ok (.ireturn, 1) := by decide +kernel
theorem dX3_init_0 : decode cX3_init 0 = .ok (.aload_n 0, 1) := by decide +kernel
theorem dX3_init_1 : decode cX3_init 1 = .ok (.invokespecial 1, 3) := by decide +kernel
theorem dX3_init_4 : decode cX3_init 4 = .ok (.aload_n 0, 1) := by decide +kernel
theorem dX3_init_5 : decode cX3_init 5 = .ok (.bipush 23, 2) := by decide +kernel
theorem dX3_init_7 : decode cX3_init 7 = .ok (.newarray .int, 2) := by decide +kernel
theorem dX3_init_9 : decode cX3_init 9 = .ok (.putfield 7, 3) := by decide +kernel
theorem dX3_init_12 : decode cX3_init 12 = .ok (.aload_n 0, 1) := by decide +kernel
theorem dX3_init_13 : decode cX3_init 13 = .ok (.bipush 46, 2) := by decide +kernel
theorem dX3_init_15 : decode cX3_init 15 = .ok (.newarray .int, 2) := by decide +kernel
theorem dX3_init_17 : decode cX3_init 17 = .ok (.putfield 13, 3) := by decide +kernel
theorem dX3_init_20 : decode cX3_init 20 = .ok (.aload_n 0, 1) := by decide +kernel
theorem dX3_init_21 : decode cX3_init 21 = .ok (.iconst 2, 1) := by decide +kernel
theorem dX3_init_22 : decode cX3_init 22 = .ok (.newarray .boolean, 2) := by decide +kernel
theorem dX3_init_24 : decode cX3_init 24 = .ok (.putfield 16, 3) := by decide +kernel
theorem dX3_init_27 : decode cX3_init 27 = .ok (.aload_n 0, 1) := by decide +kernel
theorem dX3_init_28 : decode cX3_init 28 = .ok (.getfield 7, 3) := by decide +kernel
theorem dX3_init_31 : decode cX3_init 31 = .ok (.bipush 22, 2) := by decide +kernel
theorem dX3_init_33 : decode cX3_init 33 = .ok (.iconst 5, 1) := by decide +kernel
theorem dX3_init_34 : decode cX3_init 34 = .ok (.iastore, 1) := by decide +kernel
theorem dX3_init_35 : decode cX3_init 35 = .ok (.return_, 1) := by decide +kernel
theorem dX3_in_0 : decode cX3_in 0 = .ok (.lload_n 0, 1) := by decide +kernel
theorem dX3_in_1 : decode cX3_in 1 = .ok (.lload_n 2, 1) := by decide +kernel
theorem dX3_in_2 : decode cX3_in 2 = .ok (.lcmp, 1) := by decide +kernel
theorem dX3_in_3 : decode cX3_in 3 = .ok (.ifCond .lt 14, 3) := by decide +kernel
theorem dX3_in_6 : decode cX3_in 6 = .ok (.lload_n 0, 1) := by decide +kernel
theorem dX3_in_7 : decode cX3_in 7 = .ok (.lload 4, 2) := by decide +kernel
theorem dX3_in_9 : decode cX3_in 9 = .ok (.lcmp, 1) := by decide +kernel
theorem dX3_in_10 : decode cX3_in 10 = .ok (.ifCond .gt 7, 3) := by decide +kernel
theorem dX3_in_13 : decode cX3_in 13 = .ok (.iconst 1, 1) := by decide +kernel
theorem dX3_in_14 : decode cX3_in 14 = .ok (.goto 4, 3) := by decide +kernel
theorem dX3_in_17 : decode cX3_in 17 = .ok (.iconst 0, 1) := by decide +kernel
theorem dX3_in_18 : decode cX3_in 18 = .ok (.ireturn, 1) := by decide +kernel
set_option maxRecDepth 20000 in
theorem ggX3_isSample_X3_in : GoodIn wsX3_isSample wsX3_in := goodIn_r _ [5] (by decide +kernel) (by decide +kernel)
set_option maxRecDepth 20000 in
theorem gX3_isSample_X3_in : GoodIn wsX3_isSample (va_wsS RX3 20 yX3_in wsX3_in) := goodIn_app (goodIn_of _ (by decide +kernel)) ggX3_isSample_X3_in
theorem dX3_isSample_0 : decode cX3_isSample 0 = .ok (.iload_n 1, 1) := by decide +kernel
theorem dX3_isSample_1 : decode cX3_isSample 1 = .ok (.i2l, 1) := by decide +kernel
theorem dX3_isSample_2 : decode cX3_isSample 2 = .ok (.lconst 0, 1) := by decide +kernel
theorem dX3_isSample_3 : decode cX3_isSample 3 = .ok (.aload_n 0, 1) := by decide +kernel
theorem dX3_isSample_4 : decode cX3_isSample 4 = .ok (.getfield 7, 3) := by decide +kernel
theorem dX3_isSample_7 : decode cX3_isSample 7 = .ok (.bipush 20, 2) := by decide +kernel
theorem dX3_isSample_9 : decode cX3_isSample 9 = .ok (.iaload, 1) := by decide +kernel
theorem dX3_isSample_10 : decode cX3_isSample 10 = .ok (.iconst 1, 1) := by decide +kernel
theorem dX3_isSample_11 : decode cX3_isSample 11 = .ok (.isub, 1) := by decide +kernel
theorem dX3_isSample_12 : decode cX3_isSample 12 = .ok (.i2l, 1) := by decide +kernel
theorem dX3_isSample_13 : decode cX3_isSample 13 = .ok (.invokestatic 20, 3) := by decide +kernel
theorem dX3_isSample_16 : decode cX3_isSample 16 = .ok (.ireturn, 1) := by decide +kernel
set_option maxRecDepth 20000 in
theorem ggX3_isHere_X3_in : GoodIn wsX3_isHere wsX3_in := goodIn_r _ [6] (by decide +kernel) (by decide +kernel)
set_option maxRecDepth 20000 in
theorem gX3_isHere_X3_in : GoodIn wsX3_isHere (va_wsS RX3 20 yX3_in wsX3_in) := goodIn_app (goodIn_of _ (by decide +kernel)) ggX3_isHere_X3_in
theorem dX3_isHere_0 : decode cX3_isHere 0 = .ok (.iload_n 0, 1) := by decide +kernel
theorem dX3_isHere_1 : decode cX3_isHere 1 = .ok (.i2l, 1) := by decide +kernel
theorem dX3_isHere_2 : decode cX3_isHere 2 = .ok (.ldc2_w 24, 3) := by decide +kernel
theorem dX3_isHere_5 : decode cX3_isHere 5 = .ok (.ldc2_w 26, 3) := by decide +kernel
theorem dX3_isHere_8 : decode cX3_isHere 8 = .ok (.invokestatic 20, 3) := by decide +kernel
theorem dX3_isHere_11 : decode cX3_isHere 11 = .ok (.ifCond .eq 21, 3) := by decide +kernel
theorem dX3_isHere_14 : decode cX3_isHere 14 = .ok (.iload_n 1, 1) := by decide +kernel
theorem dX3_isHere_15 : decode cX3_isHere 15 = .ok (.i2l, 1) := by decide +kernel
theorem dX3_isHere_16 : decode cX3_isHere 16 = .ok (.ldc2_w 24, 3) := by decide +kernel
theorem dX3_isHere_19 : decode cX3_isHere 19 = .ok (.ldc2_w 26, 3) := by decide +kernel
theorem dX3_isHere_22 : decode cX3_isHere 22 = .ok (.invokestatic 20, 3) := by decide +kernel
theorem dX3_isHere_25 : decode cX3_isHere 25 = .ok (.ifCond .eq 7, 3) := by decide +kernel
theorem dX3_isHere_28 : decode cX3_isHere 28 = .ok (.iconst 1, 1) := by decide +kernel
theorem dX3_isHere_29 : decode cX3_isHere 29 = .ok (.goto 4, 3) := by decide +kernel
theorem dX3_isHere_32 : decode cX3_isHere 32 = .ok (.iconst 0, 1) := by decide +kernel
theorem dX3_isHere_33 : decode cX3_isHere 33 = .ok (.ireturn, 1) := by decide +kernel
theorem dX3_size_0 : decode cX3_size 0 = .ok (.iconst 0, 1) := by decide +kernel
theorem dX3_size_1 : decode cX3_size 1 = .ok (.istore_n 1, 1) := by decide +kernel
theorem dX3_size_2 : decode cX3_size 2 = .ok (.iconst 0, 1) := by decide +kernel
theorem dX3_size_3 : decode cX3_size 3 = .ok (.istore_n 2, 1) := by decide +kernel
theorem dX3_size_4 : decode cX3_size 4 = .ok (.iload_n 2, 1) := by decide +kernel
theorem dX3_size_5 : decode cX3_size 5 = .ok (.bipush 10, 2) := by decide +kernel
theorem dX3_size_7 : decode cX3_size 7 = .ok (.if_icmp .ge 17, 3) := by decide +kernel
theorem dX3_size_10 : decode cX3_size 10 = .ok (.iload_n 1, 1) := by decide +kernel
theorem dX3_size_11 : decode cX3_size 11 = .ok (.iload_n 0, 1) := by decide +kernel
theorem dX3_size_12 : decode cX3_size 12 = .ok (.iload_n 2, 1) := by decide +kernel
theorem dX3_size_13 : decode cX3_size 13 = .ok (.ishr, 1) := by decide +kernel
theorem dX3_size_14 : decode cX3_size 14 = .ok (.iconst 1, 1) := by decide +kernel
theorem dX3_size_15 : decode cX3_size 15 = .ok (.iand, 1) := by decide +kernel
theorem dX3_size_16 : decode cX3_size 16 = .ok (.iadd, 1) := by decide +kernel
theorem dX3_size_17 : decode cX3_size 17 = .ok (.istore_n 1, 1) := by decide +kernel
theorem dX3_size_18 : decode cX3_size 18 = .ok (.iinc 2 1, 3) := by decide +kernel
theorem dX3_size_21 : decode cX3_size 21 = .ok (.goto (-17), 3) := by decide +kernel
theorem dX3_size_24 : decode cX3_size 24 = .ok (.iload_n 1, 1) := by decide +kernel
theorem dX3_size_25 : decode cX3_size 25 = .ok (.ireturn, 1) := by decide +kernel
theorem dX3_power_0 : decode cX3_power 0 = .ok (.iload_n 0, 1) := by decide +kernel
theorem dX3_power_1 : decode cX3_power 1 = .ok (.iload_n 0, 1) := by decide +kernel
theorem dX3_power_2 : decode cX3_power 2 = .ok (.imul, 1) := by decide +kernel
theorem dX3_power_3 : decode cX3_power 3 = .ok (.iload_n 1, 1) := by decide +kernel
theorem dX3_power_4 : decode cX3_power 4 = .ok (.iload_n 1, 1) := by decide +kernel
theorem dX3_power_5 : decode cX3_power 5 = .ok (.imul, 1) := by decide +kernel
theorem dX3_power_6 : decode cX3_power 6 = .ok (.iadd, 1) := by decide +kernel
theorem dX3_power_7 : decode cX3_power 7 = .ok (.ireturn, 1) := by decide +kernel
set_option maxRecDepth 20000 in
theorem ggX3_add_X3_isHere : GoodIn wsX3_add wsX3_isHere := goodIn_r _ [5, 6, 7, 8, 9, 4, 10] (by decide +kernel) (by decide +kernel)
set_option maxRecDepth 20000 in
theorem gX3_add_X3_isHere : GoodIn wsX3_add (va_wsS RX3 28 yX3_isHere wsX3_isHere) := goodIn_app (goodIn_of _ (by decide +kernel)) ggX3_add_X3_isHere
theorem dX3_add_0 : decode cX3_add 0 = .ok (.iload_n 1, 1) := by decide +kernel
theorem dX3_add_1 : decode cX3_add 1 = .ok (.iload_n 2, 1) := by decide +kernel
theorem dX3_add_2 : decode cX3_add 2 = .ok (.invokestatic 28, 3) := by decide +kernel
theorem dX3_add_5 : decode cX3_add 5 = .ok (.ifCond .ne 6, 3) := by decide +kernel
theorem dX3_add_8 : decode cX3_add 8 = .ok (.bipush (-2), 2) := by decide +kernel
theorem dX3_add_10 : decode cX3_add 10 = .ok (.ireturn, 1) := by decide +kernel
theorem dX3_add_11 : decode cX3_add 11 = .ok (.aload_n 0, 1) := by decide +kernel
theorem dX3_add_12 : decode cX3_add 12 = .ok (.getfield 7, 3) := by decide +kernel
theorem dX3_add_15 : decode cX3_add 15 = .ok (.bipush 20, 2) := by decide +kernel
theorem dX3_add_17 : decode cX3_add 17 = .ok (.iaload, 1) := by decide +kernel
theorem dX3_add_18 : decode cX3_add 18 = .ok (.istore_n 3, 1) := by decide +kernel
theorem dX3_add_19 : decode cX3_add 19 = .ok (.iload_n 3, 1) := by decide +kernel
theorem dX3_add_20 : decode cX3_add 20 = .ok (.bipush 10, 2) := by decide +kernel
theorem dX3_add_22 : decode cX3_add 22 = .ok (.if_icmp .ne 6, 3) := by decide +kernel
theorem dX3_add_25 : decode cX3_add 25 = .ok (.bipush (-4), 2) := by decide +kernel
theorem dX3_add_27 : decode cX3_add 27 = .ok (.ireturn, 1) := by decide +kernel
theorem dX3_add_28 : decode cX3_add 28 = .ok (.aload_n 0, 1) := by decide +kernel
theorem dX3_add_29 : decode cX3_add 29 = .ok (.getfield 7, 3) := by decide +kernel
theorem dX3_add_32 : decode cX3_add 32 = .ok (.iconst 0, 1) := by decide +kernel
theorem dX3_add_33 : decode cX3_add 33 = .ok (.iload_n 3, 1) := by decide +kernel
theorem dX3_add_34 : decode cX3_add 34 = .ok (.iadd, 1) := by decide +kernel
theorem dX3_add_35 : decode cX3_add 35 = .ok (.iload_n 1, 1) := by decide +kernel
theorem dX3_add_36 : decode cX3_add 36 = .ok (.iastore, 1) := by decide +kernel
theorem dX3_add_37 : decode cX3_add 37 = .ok (.aload_n 0, 1) := by decide +kernel
theorem dX3_add_38 : decode cX3_add 38 = .ok (.getfield 7, 3) := by decide +kernel
theorem dX3_add_41 : decode cX3_add 41 = .ok (.bipush 10, 2) := by decide +kernel
theorem dX3_add_43 : decode cX3_add 43 = .ok (.iload_n 3, 1) := by decide +kernel
theorem dX3_add_44 : decode cX3_add 44 = .ok (.iadd, 1) := by decide +kernel
theorem dX3_add_45 : decode cX3_add 45 = .ok (.iload_n 2, 1) := by decide +kernel
theorem dX3_add_46 : decode cX3_add 46 = .ok (.iastore, 1) := by decide +kernel
theorem dX3_add_47 : decode cX3_add 47 = .ok (.aload_n 0, 1) := by decide +kernel
theorem dX3_add_48 : decode cX3_add 48 = .ok (.getfield 7, 3) := by decide +kernel
theorem dX3_add_51 : decode cX3_add 51 = .ok (.bipush 21, 2) := by decide +kernel
theorem dX3_add_53 : decode cX3_add 53 = .ok (.dup2, 1) := by decide +kernel
theorem dX3_add_54 : decode cX3_add 54 = .ok (.iaload, 1) := by decide +kernel
theorem dX3_add_55 : decode cX3_add 55 = .ok (.iconst 1, 1) := by decide +kernel
theorem dX3_add_56 : decode cX3_add 56 = .ok (.iload_n 3, 1) := by decide +kernel
theorem dX3_add_57 : decode cX3_add 57 = .ok (.ishl, 1) := by decide +kernel
theorem dX3_add_58 : decode cX3_add 58 = .ok (.ior, 1) := by decide +kernel
theorem dX3_add_59 : decode cX3_add 59 = .ok (.iastore, 1) := by decide +kernel
theorem dX3_add_60 : decode cX3_add 60 = .ok (.aload_n 0, 1) := by decide +kernel
theorem dX3_add_61 : decode cX3_add 61 = .ok (.getfield 7, 3) := by decide +kernel
theorem dX3_add_64 : decode cX3_add 64 = .ok (.bipush 20, 2) := by decide +kernel
theorem dX3_add_66 : decode cX3_add 66 = .ok (.dup2, 1) := by decide +kernel
theorem dX3_add_67 : decode cX3_add 67 = .ok (.iaload, 1) := by decide +kernel
theorem dX3_add_68 : decode cX3_add 68 = .ok (.iconst 1, 1) := by decide +kernel
theorem dX3_add_69 : decode cX3_add 69 = .ok (.iadd, 1) := by decide +kernel
theorem dX3_add_70 : decode cX3_add 70 = .ok (.iastore, 1) := by decide +kernel
theorem dX3_add_71 : decode cX3_add 71 = .ok (.iload_n 3, 1) := by decide +kernel
theorem dX3_add_72 : decode cX3_add 72 = .ok (.ireturn, 1) := by decide +kernel
theorem dX3_clear_0 : decode cX3_clear 0 = .ok (.aload_n 0, 1) := by decide +kernel
theorem dX3_clear_1 : decode cX3_clear 1 = .ok (.getfield 7, 3) := by decide +kernel
theorem dX3_clear_4 : decode cX3_clear 4 = .ok (.bipush 20, 2) := by decide +kernel
theorem dX3_clear_6 : decode cX3_clear 6 = .ok (.iaload, 1) := by decide +kernel
theorem dX3_clear_7 : decode cX3_clear 7 = .ok (.istore_n 1, 1) := by decide +kernel
theorem dX3_clear_8 : decode cX3_clear 8 = .ok (.aload_n 0, 1) := by decide +kernel
theorem dX3_clear_9 : decode cX3_clear 9 = .ok (.getfield 7, 3) := by decide +kernel
theorem dX3_clear_12 : decode cX3_clear 12 = .ok (.bipush 20, 2) := by decide +kernel
theorem dX3_clear_14 : decode cX3_clear 14 = .ok (.iconst 0, 1) := by decide +kernel
theorem dX3_clear_15 : decode cX3_clear 15 = .ok (.iastore, 1) := by decide +kernel
theorem dX3_clear_16 : decode cX3_clear 16 = .ok (.aload_n 0, 1) := by decide +kernel
theorem dX3_clear_17 : decode cX3_clear 17 = .ok (.getfield 7, 3) := by decide +kernel
theorem dX3_clear_20 : decode cX3_clear 20 = .ok (.bipush 21, 2) := by decide +kernel
theorem dX3_clear_22 : decode cX3_clear 22 = .ok (.iconst 0, 1) := by decide +kernel
theorem dX3_clear_23 : decode cX3_clear 23 = .ok (.iastore, 1) := by decide +kernel
theorem dX3_clear_24 : decode cX3_clear 24 = .ok (.iload_n 1, 1) := by decide +kernel
theorem dX3_clear_25 : decode cX3_clear 25 = .ok (.ireturn, 1) := by decide +kernel
set_option maxRecDepth 20000 in
theorem ggX3_take_X3_isSample : GoodIn wsX3_take wsX3_isSample := goodIn_r _ [6, 1, 7, 8, 5, 9, 13, 14, 15, 16, 17, 18, 19, 20, 21, 22, 23, 24, 25, 26, 27, 28] (by decide +kernel) (by decide +kernel)
set_option maxRecDepth 20000 in
theorem gX3_take_X3_isSample : GoodIn wsX3_take (wsV RX3 32 RX3 yX3_isSample wsX3_isSample) := goodIn_app (goodIn_of _ (by decide +kernel)) ggX3_take_X3_isSample
set_option maxRecDepth 20000 in
theorem ggX3_take_X3_in : GoodIn wsX3_take wsX3_in := goodIn_r _ [9] (by decide +kernel) (by decide +kernel)
set_option maxRecDepth 20000 in
theorem gX3_take_X3_in : GoodIn wsX3_take (va_wsS RX3 20 yX3_in wsX3_in) := goodIn_app (goodIn_of _ (by decide +kernel)) ggX3_take_X3_in
set_option maxRecDepth 20000 in
theorem ggX3_take_X3_size : GoodIn wsX3_take wsX3_size := goodIn_r _ [12] (by decide +kernel) (by decide +kernel)
set_option maxRecDepth 20000 in
theorem gX3_take_X3_size : GoodIn wsX3_take (va_wsS RX3 36 yX3_size wsX3_size) := goodIn_app (goodIn_of _ (by decide +kernel)) ggX3_take_X3_size
theorem dX3_take_0 : decode cX3_take 0 = .ok (.aload_n 0, 1) := by decide +kernel
theorem dX3_take_1 : decode cX3_take 1 = .ok (.iload_n 1, 1) := by decide +kernel
theorem dX3_take_2 : decode cX3_take 2 = .ok (.invokevirtual 32, 3) := by decide +kernel
theorem dX3_take_5 : decode cX3_take 5 = .ok (.ifCond .ne 5, 3) := by decide +kernel
theorem dX3_take_8 : decode cX3_take 8 = .ok (.iconst (-1), 1) := by decide +kernel
theorem dX3_take_9 : decode cX3_take 9 = .ok (.ireturn, 1) := by decide +kernel
theorem dX3_take_10 : decode cX3_take 10 = .ok (.iload_n 2, 1) := by decide +kernel
theorem dX3_take_11 : decode cX3_take 11 = .ok (.i2l, 1) := by decide +kernel
theorem dX3_take_12 : decode cX3_take 12 = .ok (.lconst 0, 1) := by decide +kernel
theorem dX3_take_13 : decode cX3_take 13 = .ok (.lconst 1, 1) := by decide +kernel
theorem dX3_take_14 : decode cX3_take 14 = .ok (.invokestatic 20, 3) := by decide +kernel
theorem dX3_take_17 : decode cX3_take 17 = .ok (.ifCond .ne 6, 3) := by decide +kernel
theorem dX3_take_20 : decode cX3_take 20 = .ok (.bipush (-2), 2) := by decide +kernel
theorem dX3_take_22 : decode cX3_take 22 = .ok (.ireturn, 1) := by decide +kernel
theorem dX3_take_23 : decode cX3_take 23 = .ok (.aload_n 0, 1) := by decide +kernel
theorem dX3_take_24 : decode cX3_take 24 = .ok (.getfield 7, 3) := by decide +kernel
theorem dX3_take_27 : decode cX3_take 27 = .ok (.bipush 21, 2) := by decide +kernel
theorem dX3_take_29 : decode cX3_take 29 = .ok (.aload_n 0, 1) := by decide +kernel
theorem dX3_take_30 : decode cX3_take 30 = .ok (.getfield 7, 3) := by decide +kernel
theorem dX3_take_33 : decode cX3_take 33 = .ok (.bipush 21, 2) := by decide +kernel
theorem dX3_take_35 : decode cX3_take 35 = .ok (.iaload, 1) := by decide +kernel
theorem dX3_take_36 : decode cX3_take 36 = .ok (.iconst 1, 1) := by decide +kernel
theorem dX3_take_37 : decode cX3_take 37 = .ok (.iload_n 1, 1) := by decide +kernel
theorem dX3_take_38 : decode cX3_take 38 = .ok (.ishl, 1) := by decide +kernel
theorem dX3_take_39 : decode cX3_take 39 = .ok (.iconst (-1), 1) := by decide +kernel
theorem dX3_take_40 : decode cX3_take 40 = .ok (.ixor, 1) := by decide +kernel
theorem dX3_take_41 : decode cX3_take 41 = .ok (.iand, 1) := by decide +kernel
theorem dX3_take_42 : decode cX3_take 42 = .ok (.iload_n 2, 1) := by decide +kernel
theorem dX3_take_43 : decode cX3_take 43 = .ok (.iload_n 1, 1) := by decide +kernel
theorem dX3_take_44 : decode cX3_take 44 = .ok (.ishl, 1) := by decide +kernel
theorem dX3_take_45 : decode cX3_take 45 = .ok (.ior, 1) := by decide +kernel
theorem dX3_take_46 : decode cX3_take 46 = .ok (.iastore, 1) := by decide +kernel
theorem dX3_take_47 : decode cX3_take 47 = .ok (.aload_n 0, 1) := by decide +kernel
theorem dX3_take_48 : decode cX3_take 48 = .ok (.getfield 7, 3) := by decide +kernel
theorem dX3_take_51 : decode cX3_take 51 = .ok (.bipush 21, 2) := by decide +kernel
theorem dX3_take_53 : decode cX3_take 53 = .ok (.iaload, 1) := by decide +kernel
theorem dX3_take_54 : decode cX3_take 54 = .ok (.invokestatic 36, 3) := by decide +kernel
theorem dX3_take_57 : decode cX3_take 57 = .ok (.ireturn, 1) := by decide +kernel
set_option maxRecDepth 20000 in
theorem ggX3_of_X3_isSample : GoodIn wsX3_of wsX3_isSample := goodIn_r _ [6, 1, 7, 8, 5, 9, 13, 14, 15, 16, 17, 18, 19, 20, 21, 22, 23, 24, 25, 26, 27, 28] (by decide +kernel) (by decide +kernel)
set_option maxRecDepth 20000 in
theorem gX3_of_X3_isSample : GoodIn wsX3_of (wsV RX3 32 RX3 yX3_isSample wsX3_isSample) := goodIn_app (goodIn_of _ (by decide +kernel)) ggX3_of_X3_isSample
set_option maxRecDepth 20000 in
theorem ggX3_of_X3_power : GoodIn wsX3_of wsX3_power := goodIn_r _ [12] (by decide +kernel) (by decide +kernel)
set_option maxRecDepth 20000 in
theorem gX3_of_X3_power : GoodIn wsX3_of (va_wsS RX3 40 yX3_power wsX3_power) := goodIn_app (goodIn_of _ (by decide +kernel)) ggX3_of_X3_power
theorem dX3_of_0 : decode cX3_of 0 = .ok (.aload_n 0, 1) := by decide +kernel
theorem dX3_of_1 : decode cX3_of 1 = .ok (.iload_n 1, 1) := by decide +kernel
theorem dX3_of_2 : decode cX3_of 2 = .ok (.invokevirtual 32, 3) := by decide +kernel
theorem dX3_of_5 : decode cX3_of 5 = .ok (.ifCond .ne 5, 3) := by decide +kernel
theorem dX3_of_8 : decode cX3_of 8 = .ok (.iconst (-1), 1) := by decide +kernel
theorem dX3_of_9 : decode cX3_of 9 = .ok (.ireturn, 1) := by decide +kernel
theorem dX3_of_10 : decode cX3_of 10 = .ok (.iload_n 2, 1) := by decide +kernel
theorem dX3_of_11 : decode cX3_of 11 = .ok (.tableswitch 87 0 3 #[29, 41, 54, 66], 29) := by decide +kernel
theorem dX3_of_40 : decode cX3_of 40 = .ok (.aload_n 0, 1) := by decide +kernel
theorem dX3_of_41 : decode cX3_of 41 = .ok (.getfield 7, 3) := by decide +kernel
theorem dX3_of_44 : decode cX3_of 44 = .ok (.iconst 0, 1) := by decide +kernel
theorem dX3_of_45 : decode cX3_of 45 = .ok (.iload_n 1, 1) := by decide +kernel
theorem dX3_of_46 : decode cX3_of 46 = .ok (.iadd, 1) := by decide +kernel
theorem dX3_of_47 : decode cX3_of 47 = .ok (.iaload, 1) := by decide +kernel
theorem dX3_of_48 : decode cX3_of 48 = .ok (.bipush 100, 2) := by decide +kernel
theorem dX3_of_50 : decode cX3_of 50 = .ok (.iadd, 1) := by decide +kernel
theorem dX3_of_51 : decode cX3_of 51 = .ok (.ireturn, 1) := by decide +kernel
theorem dX3_of_52 : decode cX3_of 52 = .ok (.aload_n 0, 1) := by decide +kernel
theorem dX3_of_53 : decode cX3_of 53 = .ok (.getfield 7, 3) := by decide +kernel
theorem dX3_of_56 : decode cX3_of 56 = .ok (.bipush 10, 2) := by decide +kernel
theorem dX3_of_58 : decode cX3_of 58 = .ok (.iload_n 1, 1) := by decide +kernel
theorem dX3_of_59 : decode cX3_of 59 = .ok (.iadd, 1) := by decide +kernel
theorem dX3_of_60 : decode cX3_of 60 = .ok (.iaload, 1) := by decide +kernel
theorem dX3_of_61 : decode cX3_of 61 = .ok (.bipush 100, 2) := by decide +kernel
theorem dX3_of_63 : decode cX3_of 63 = .ok (.iadd, 1) := by decide +kernel
theorem dX3_of_64 : decode cX3_of 64 = .ok (.ireturn, 1) := by decide +kernel
theorem dX3_of_65 : decode cX3_of 65 = .ok (.aload_n 0, 1) := by decide +kernel
theorem dX3_of_66 : decode cX3_of 66 = .ok (.getfield 7, 3) := by decide +kernel
theorem dX3_of_69 : decode cX3_of 69 = .ok (.bipush 21, 2) := by decide +kernel
theorem dX3_of_71 : decode cX3_of 71 = .ok (.iaload, 1) := by decide +kernel
theorem dX3_of_72 : decode cX3_of 72 = .ok (.iload_n 1, 1) := by decide +kernel
theorem dX3_of_73 : decode cX3_of 73 = .ok (.ishr, 1) := by decide +kernel
theorem dX3_of_74 : decode cX3_of 74 = .ok (.iconst 1, 1) := by decide +kernel
theorem dX3_of_75 : decode cX3_of 75 = .ok (.iand, 1) := by decide +kernel
theorem dX3_of_76 : decode cX3_of 76 = .ok (.ireturn, 1) := by decide +kernel
theorem dX3_of_77 : decode cX3_of 77 = .ok (.aload_n 0, 1) := by decide +kernel
theorem dX3_of_78 : decode cX3_of 78 = .ok (.getfield 7, 3) := by decide +kernel
theorem dX3_of_81 : decode cX3_of 81 = .ok (.iconst 0, 1) := by decide +kernel
theorem dX3_of_82 : decode cX3_of 82 = .ok (.iload_n 1, 1) := by decide +kernel
theorem dX3_of_83 : decode cX3_of 83 = .ok (.iadd, 1) := by decide +kernel
theorem dX3_of_84 : decode cX3_of 84 = .ok (.iaload, 1) := by decide +kernel
theorem dX3_of_85 : decode cX3_of 85 = .ok (.aload_n 0, 1) := by decide +kernel
theorem dX3_of_86 : decode cX3_of 86 = .ok (.getfield 7, 3) := by decide +kernel
theorem dX3_of_89 : decode cX3_of 89 = .ok (.bipush 10, 2) := by decide +kernel
theorem dX3_of_91 : decode cX3_of 91 = .ok (.iload_n 1, 1) := by decide +kernel
theorem dX3_of_92 : decode cX3_of 92 = .ok (.iadd, 1) := by decide +kernel
theorem dX3_of_93 : decode cX3_of 93 = .ok (.iaload, 1) := by decide +kernel
theorem dX3_of_94 : decode cX3_of 94 = .ok (.invokestatic 40, 3) := by decide +kernel
theorem dX3_of_97 : decode cX3_of 97 = .ok (.ireturn, 1) := by decide +kernel
theorem dX3_of_98 : decode cX3_of 98 = .ok (.bipush (-2), 2) := by decide +kernel
theorem dX3_of_100 : decode cX3_of 100 = .ok (.ireturn, 1) := by decide +kernel
set_option maxRecDepth 20000 in
theorem ggX3_sumOne_X3_power : GoodIn wsX3_sumOne wsX3_power := goodIn_r _ [13] (by decide +kernel) (by decide +kernel)
set_option maxRecDepth 20000 in
theorem gX3_sumOne_X3_power : GoodIn wsX3_sumOne (va_wsS RX3 40 yX3_power wsX3_power) := goodIn_app (goodIn_of _ (by decide +kernel)) ggX3_sumOne_X3_power
theorem dX3_sumOne_0 : decode cX3_sumOne 0 = .ok (.iload_n 1, 1) := by decide +kernel
theorem dX3_sumOne_1 : decode cX3_sumOne 1 = .ok (.iload_n 2, 1) := by decide +kernel
theorem dX3_sumOne_2 : decode cX3_sumOne 2 = .ok (.invokestatic 40, 3) := by decide +kernel
theorem dX3_sumOne_5 : decode cX3_sumOne 5 = .ok (.istore_n 3, 1) := by decide +kernel
theorem dX3_sumOne_6 : decode cX3_sumOne 6 = .ok (.aload_n 0, 1) := by decide +kernel
theorem dX3_sumOne_7 : decode cX3_sumOne 7 = .ok (.dup, 1) := by decide +kernel
theorem dX3_sumOne_8 : decode cX3_sumOne 8 = .ok (.getfield 44, 3) := by decide +kernel
theorem dX3_sumOne_11 : decode cX3_sumOne 11 = .ok (.lconst 1, 1) := by decide +kernel
theorem dX3_sumOne_12 : decode cX3_sumOne 12 = .ok (.ladd, 1) := by decide +kernel
theorem dX3_sumOne_13 : decode cX3_sumOne 13 = .ok (.putfield 44, 3) := by decide +kernel
theorem dX3_sumOne_16 : decode cX3_sumOne 16 = .ok (.aload_n 0, 1) := by decide +kernel
theorem dX3_sumOne_17 : decode cX3_sumOne 17 = .ok (.dup, 1) := by decide +kernel
theorem dX3_sumOne_18 : decode cX3_sumOne 18 = .ok (.getfield 48, 3) := by decide +kernel
theorem dX3_sumOne_21 : decode cX3_sumOne 21 = .ok (.iload_n 1, 1) := by decide +kernel
theorem dX3_sumOne_22 : decode cX3_sumOne 22 = .ok (.i2l, 1) := by decide +kernel
theorem dX3_sumOne_23 : decode cX3_sumOne 23 = .ok (.ladd, 1) := by decide +kernel
theorem dX3_sumOne_24 : decode cX3_sumOne 24 = .ok (.putfield 48, 3) := by decide +kernel
theorem dX3_sumOne_27 : decode cX3_sumOne 27 = .ok (.aload_n 0, 1) := by decide +kernel
theorem dX3_sumOne_28 : decode cX3_sumOne 28 = .ok (.dup, 1) := by decide +kernel
theorem dX3_sumOne_29 : decode cX3_sumOne 29 = .ok (.getfield 51, 3) := by decide +kernel
theorem dX3_sumOne_32 : decode cX3_sumOne 32 = .ok (.iload_n 2, 1) := by decide +kernel
theorem dX3_sumOne_33 : decode cX3_sumOne 33 = .ok (.i2l, 1) := by decide +kernel
theorem dX3_sumOne_34 : decode cX3_sumOne 34 = .ok (.ladd, 1) := by decide +kernel
theorem dX3_sumOne_35 : decode cX3_sumOne 35 = .ok (.putfield 51, 3) := by decide +kernel
theorem dX3_sumOne_38 : decode cX3_sumOne 38 = .ok (.aload_n 0, 1) := by decide +kernel
theorem dX3_sumOne_39 : decode cX3_sumOne 39 = .ok (.dup, 1) := by decide +kernel
theorem dX3_sumOne_40 : decode cX3_sumOne 40 = .ok (.getfield 54, 3) := by decide +kernel
theorem dX3_sumOne_43 : decode cX3_sumOne 43 = .ok (.iload_n 1, 1) := by decide +kernel
theorem dX3_sumOne_44 : decode cX3_sumOne 44 = .ok (.iload_n 1, 1) := by decide +kernel
theorem dX3_sumOne_45 : decode cX3_sumOne 45 = .ok (.imul, 1) := by decide +kernel
theorem dX3_sumOne_46 : decode cX3_sumOne 46 = .ok (.i2l, 1) := by decide +kernel
theorem dX3_sumOne_47 : decode cX3_sumOne 47 = .ok (.ladd, 1) := by decide +kernel
theorem dX3_sumOne_48 : decode cX3_sumOne 48 = .ok (.putfield 54, 3) := by decide +kernel
theorem dX3_sumOne_51 : decode cX3_sumOne 51 = .ok (.aload_n 0, 1) := by decide +kernel
theorem dX3_sumOne_52 : decode cX3_sumOne 52 = .ok (.dup, 1) := by decide +kernel
theorem dX3_sumOne_53 : decode cX3_sumOne 53 = .ok (.getfield 57, 3) := by decide +kernel
theorem dX3_sumOne_56 : decode cX3_sumOne 56 = .ok (.iload_n 1, 1) := by decide +kernel
theorem dX3_sumOne_57 : decode cX3_sumOne 57 = .ok (.iload_n 2, 1) := by decide +kernel
theorem dX3_sumOne_58 : decode cX3_sumOne 58 = .ok (.imul, 1) := by decide +kernel
theorem dX3_sumOne_59 : decode cX3_sumOne 59 = .ok (.i2l, 1) := by decide +kernel
theorem dX3_sumOne_60 : decode cX3_sumOne 60 = .ok (.ladd, 1) := by decide +kernel
theorem dX3_sumOne_61 : decode cX3_sumOne 61 = .ok (.putfield 57, 3) := by decide +kernel
theorem dX3_sumOne_64 : decode cX3_sumOne 64 = .ok (.aload_n 0, 1) := by decide +kernel
theorem dX3_sumOne_65 : decode cX3_sumOne 65 = .ok (.dup, 1) := by decide +kernel
theorem dX3_sumOne_66 : decode cX3_sumOne 66 = .ok (.getfield 60, 3) := by decide +kernel
theorem dX3_sumOne_69 : decode cX3_sumOne 69 = .ok (.iload_n 2, 1) := by decide +kernel
theorem dX3_sumOne_70 : decode cX3_sumOne 70 = .ok (.iload_n 2, 1) := by decide +kernel
theorem dX3_sumOne_71 : decode cX3_sumOne 71 = .ok (.imul, 1) := by decide +kernel
theorem dX3_sumOne_72 : decode cX3_sumOne 72 = .ok (.i2l, 1) := by decide +kernel
theorem dX3_sumOne_73 : decode cX3_sumOne 73 = .ok (.ladd, 1) := by decide +kernel
theorem dX3_sumOne_74 : decode cX3_sumOne 74 = .ok (.putfield 60, 3) := by decide +kernel
theorem dX3_sumOne_77 : decode cX3_sumOne 77 = .ok (.aload_n 0, 1) := by decide +kernel
theorem dX3_sumOne_78 : decode cX3_sumOne 78 = .ok (.dup, 1) := by decide +kernel
theorem dX3_sumOne_79 : decode cX3_sumOne 79 = .ok (.getfield 63, 3) := by decide +kernel
theorem dX3_sumOne_82 : decode cX3_sumOne 82 = .ok (.iload_n 3, 1) := by decide +kernel
theorem dX3_sumOne_83 : decode cX3_sumOne 83 = .ok (.i2l, 1) := by decide +kernel
theorem dX3_sumOne_84 : decode cX3_sumOne 84 = .ok (.ladd, 1) := by decide +kernel
theorem dX3_sumOne_85 : decode cX3_sumOne 85 = .ok (.putfield 63, 3) := by decide +kernel
theorem dX3_sumOne_88 : decode cX3_sumOne 88 = .ok (.aload_n 0, 1) := by decide +kernel
theorem dX3_sumOne_89 : decode cX3_sumOne 89 = .ok (.dup, 1) := by decide +kernel
theorem dX3_sumOne_90 : decode cX3_sumOne 90 = .ok (.getfield 66, 3) := by decide +kernel
theorem dX3_sumOne_93 : decode cX3_sumOne 93 = .ok (.iload_n 3, 1) := by decide +kernel
theorem dX3_sumOne_94 : decode cX3_sumOne 94 = .ok (.iload_n 1, 1) := by decide +kernel
theorem dX3_sumOne_95 : decode cX3_sumOne 95 = .ok (.imul, 1) := by decide +kernel
theorem dX3_sumOne_96 : decode cX3_sumOne 96 = .ok (.i2l, 1) := by decide +kernel
theorem dX3_sumOne_97 : decode cX3_sumOne 97 = .ok (.ladd, 1) := by decide +kernel
theorem dX3_sumOne_98 : decode cX3_sumOne 98 = .ok (.putfield 66, 3) := by decide +kernel
theorem dX3_sumOne_101 : decode cX3_sumOne 101 = .ok (.aload_n 0, 1) := by decide +kernel
theorem dX3_sumOne_102 : decode cX3_sumOne 102 = .ok (.dup, 1) := by decide +kernel
theorem dX3_sumOne_103 : decode cX3_sumOne 103 = .ok (.getfield 69, 3) := by decide +kernel
theorem dX3_sumOne_106 : decode cX3_sumOne 106 = .ok (.iload_n 3, 1) := by decide +kernel
theorem dX3_sumOne_107 : decode cX3_sumOne 107 = .ok (.iload_n 2, 1) := by decide +kernel
theorem dX3_sumOne_108 : decode cX3_sumOne 108 = .ok (.imul, 1) := by decide +kernel
theorem dX3_sumOne_109 : decode cX3_sumOne 109 = .ok (.i2l, 1) := by decide +kernel
theorem dX3_sumOne_110 : decode cX3_sumOne 110 = .ok (.ladd, 1) := by decide +kernel
theorem dX3_sumOne_111 : decode cX3_sumOne 111 = .ok (.putfield 69, 3) := by decide +kernel
theorem dX3_sumOne_114 : decode cX3_sumOne 114 = .ok (.return_, 1) := by decide +kernel
set_option maxRecDepth 20000 in
theorem ggX3_sumSet_X3_sumOne : GoodIn wsX3_sumSet wsX3_sumOne := goodIn_r _ [15, 1, 2, 3, 4, 5, 6, 7, 8, 9, 16, 17, 14, 18, 19, 20, 21, 22, 23, 24, 25, 26, 27, 28, 29, 30, 31, 32, 33, 34] (by decide +kernel) (by decide +kernel)
set_option maxRecDepth 20000 in
theorem gX3_sumSet_X3_sumOne : GoodIn wsX3_sumSet (wsV RX3 72 RX3 yX3_sumOne wsX3_sumOne) := goodIn_app (goodIn_of _ (by decide +kernel)) ggX3_sumSet_X3_sumOne
theorem dX3_sumSet_0 : decode cX3_sumSet 0 = .ok (.aload_n 0, 1) := by decide +kernel
theorem dX3_sumSet_1 : decode cX3_sumSet 1 = .ok (.lconst 0, 1) := by decide +kernel
theorem dX3_sumSet_2 : decode cX3_sumSet 2 = .ok (.putfield 44, 3) := by decide +kernel
theorem dX3_sumSet_5 : decode cX3_sumSet 5 = .ok (.aload_n 0, 1) := by decide +kernel
theorem dX3_sumSet_6 : decode cX3_sumSet 6 = .ok (.lconst 0, 1) := by decide +kernel
theorem dX3_sumSet_7 : decode cX3_sumSet 7 = .ok (.putfield 48, 3) := by decide +kernel
theorem dX3_sumSet_10 : decode cX3_sumSet 10 = .ok (.aload_n 0, 1) := by decide +kernel
theorem dX3_sumSet_11 : decode cX3_sumSet 11 = .ok (.lconst 0, 1) := by decide +kernel
theorem dX3_sumSet_12 : decode cX3_sumSet 12 = .ok (.putfield 51, 3) := by decide +kernel
theorem dX3_sumSet_15 : decode cX3_sumSet 15 = .ok (.aload_n 0, 1) := by decide +kernel
theorem dX3_sumSet_16 : decode cX3_sumSet 16 = .ok (.lconst 0, 1) := by decide +kernel
theorem dX3_sumSet_17 : decode cX3_sumSet 17 = .ok (.putfield 54, 3) := by decide +kernel
theorem dX3_sumSet_20 : decode cX3_sumSet 20 = .ok (.aload_n 0, 1) := by decide +kernel
theorem dX3_sumSet_21 : decode cX3_sumSet 21 = .ok (.lconst 0, 1) := by decide +kernel
theorem dX3_sumSet_22 : decode cX3_sumSet 22 = .ok (.putfield 57, 3) := by decide +kernel
theorem dX3_sumSet_25 : decode cX3_sumSet 25 = .ok (.aload_n 0, 1) := by decide +kernel
theorem dX3_sumSet_26 : decode cX3_sumSet 26 = .ok (.lconst 0, 1) := by decide +kernel
theorem dX3_sumSet_27 : decode cX3_sumSet 27 = .ok (.putfield 60, 3) := by decide +kernel
theorem dX3_sumSet_30 : decode cX3_sumSet 30 = .ok (.aload_n 0, 1) := by decide +kernel
theorem dX3_sumSet_31 : decode cX3_sumSet 31 = .ok (.lconst 0, 1) := by decide +kernel
theorem dX3_sumSet_32 : decode cX3_sumSet 32 = .ok (.putfield 63, 3) := by decide +kernel
theorem dX3_sumSet_35 : decode cX3_sumSet 35 = .ok (.aload_n 0, 1) := by decide +kernel
theorem dX3_sumSet_36 : decode cX3_sumSet 36 = .ok (.lconst 0, 1) := by decide +kernel
theorem dX3_sumSet_37 : decode cX3_sumSet 37 = .ok (.putfield 66, 3) := by decide +kernel
theorem dX3_sumSet_40 : decode cX3_sumSet 40 = .ok (.aload_n 0, 1) := by decide +kernel
theorem dX3_sumSet_41 : decode cX3_sumSet 41 = .ok (.lconst 0, 1) := by decide +kernel
theorem dX3_sumSet_42 : decode cX3_sumSet 42 = .ok (.putfield 69, 3) := by decide +kernel
theorem dX3_sumSet_45 : decode cX3_sumSet 45 = .ok (.iconst 0, 1) := by decide +kernel
theorem dX3_sumSet_46 : decode cX3_sumSet 46 = .ok (.istore_n 2, 1) := by decide +kernel
theorem dX3_sumSet_47 : decode cX3_sumSet 47 = .ok (.iload_n 2, 1) := by decide +kernel
theorem dX3_sumSet_48 : decode cX3_sumSet 48 = .ok (.aload_n 0, 1) := by decide +kernel
theorem dX3_sumSet_49 : decode cX3_sumSet 49 = .ok (.getfield 7, 3) := by decide +kernel
theorem dX3_sumSet_52 : decode cX3_sumSet 52 = .ok (.bipush 20, 2) := by decide +kernel
theorem dX3_sumSet_54 : decode cX3_sumSet 54 = .ok (.iaload, 1) := by decide +kernel
theorem dX3_sumSet_55 : decode cX3_sumSet 55 = .ok (.if_icmp .ge 39, 3) := by decide +kernel
theorem dX3_sumSet_58 : decode cX3_sumSet 58 = .ok (.iload_n 1, 1) := by decide +kernel
theorem dX3_sumSet_59 : decode cX3_sumSet 59 = .ok (.iload_n 2, 1) := by decide +kernel
theorem dX3_sumSet_60 : decode cX3_sumSet 60 = .ok (.ishr, 1) := by decide +kernel
theorem dX3_sumSet_61 : decode cX3_sumSet 61 = .ok (.iconst 1, 1) := by decide +kernel
theorem dX3_sumSet_62 : decode cX3_sumSet 62 = .ok (.iand, 1) := by decide +kernel
theorem dX3_sumSet_63 : decode cX3_sumSet 63 = .ok (.iconst 1, 1) := by decide +kernel
theorem dX3_sumSet_64 : decode cX3_sumSet 64 = .ok (.if_icmp .ne 24, 3) := by decide +kernel
theorem dX3_sumSet_67 : decode cX3_sumSet 67 = .ok (.aload_n 0, 1) := by decide +kernel
theorem dX3_sumSet_68 : decode cX3_sumSet 68 = .ok (.aload_n 0, 1) := by decide +kernel
theorem dX3_sumSet_69 : decode cX3_sumSet 69 = .ok (.getfield 7, 3) := by decide +kernel
theorem dX3_sumSet_72 : decode cX3_sumSet 72 = .ok (.iconst 0, 1) := by decide +kernel
theorem dX3_sumSet_73 : decode cX3_sumSet 73 = .ok (.iload_n 2, 1) := by decide +kernel
theorem dX3_sumSet_74 : decode cX3_sumSet 74 = .ok (.iadd, 1) := by decide +kernel
theorem dX3_sumSet_75 : decode cX3_sumSet 75 = .ok (.iaload, 1) := by decide +kernel
theorem dX3_sumSet_76 : decode cX3_sumSet 76 = .ok (.aload_n 0, 1) := by decide +kernel
theorem dX3_sumSet_77 : decode cX3_sumSet 77 = .ok (.getfield 7, 3) := by decide +kernel
theorem dX3_sumSet_80 : decode cX3_sumSet 80 = .ok (.bipush 10, 2) := by decide +kernel
theorem dX3_sumSet_82 : decode cX3_sumSet 82 = .ok (.iload_n 2, 1) := by decide +kernel
theorem dX3_sumSet_83 : decode cX3_sumSet 83 = .ok (.iadd, 1) := by decide +kernel
theorem dX3_sumSet_84 : decode cX3_sumSet 84 = .ok (.iaload, 1) := by decide +kernel
theorem dX3_sumSet_85 : decode cX3_sumSet 85 = .ok (.invokevirtual 72, 3) := by decide +kernel
theorem dX3_sumSet_88 : decode cX3_sumSet 88 = .ok (.iinc 2 1, 3) := by decide +kernel
theorem dX3_sumSet_91 : decode cX3_sumSet 91 = .ok (.goto (-44), 3) := by decide +kernel
theorem dX3_sumSet_94 : decode cX3_sumSet 94 = .ok (.return_, 1) := by decide +kernel
theorem dX3_det_0 : decode cX3_det 0 = .ok (.lload_n 0, 1) := by decide +kernel
theorem dX3_det_1 : decode cX3_det 1 = .ok (.lload 8, 2) := by decide +kernel
theorem dX3_det_3 : decode cX3_det 3 = .ok (.lload 16, 2) := by decide +kernel
theorem dX3_det_5 : decode cX3_det 5 = .ok (.lmul, 1) := by decide +kernel
theorem dX3_det_6 : decode cX3_det 6 = .ok (.lload 10, 2) := by decide +kernel
theorem dX3_det_8 : decode cX3_det 8 = .ok (.lload 14, 2) := by decide +kernel
theorem dX3_det_10 : decode cX3_det 10 = .ok (.lmul, 1) := by decide +kernel
theorem dX3_det_11 : decode cX3_det 11 = .ok (.lsub, 1) := by decide +kernel
theorem dX3_det_12 : decode cX3_det 12 = .ok (.lmul, 1) := by decide +kernel
theorem dX3_det_13 : decode cX3_det 13 = .ok (.lload_n 2, 1) := by decide +kernel
theorem dX3_det_14 : decode cX3_det 14 = .ok (.lload 6, 2) := by decide +kernel
theorem dX3_det_16 : decode cX3_det 16 = .ok (.lload 16, 2) := by decide +kernel
theorem dX3_det_18 : decode cX3_det 18 = .ok (.lmul, 1) := by decide +kernel
theorem dX3_det_19 : decode cX3_det 19 = .ok (.lload 10, 2) := by decide +kernel
theorem dX3_det_21 : decode cX3_det 21 = .ok (.lload 12, 2) := by decide +kernel
theorem dX3_det_23 : decode cX3_det 23 = .ok (.lmul, 1) := by decide +kernel
theorem dX3_det_24 : decode cX3_det 24 = .ok (.lsub, 1) := by decide +kernel
theorem dX3_det_25 : decode cX3_det 25 = .ok (.lmul, 1) := by decide +kernel
theorem dX3_det_26 : decode cX3_det 26 = .ok (.lsub, 1) := by decide +kernel
theorem dX3_det_27 : decode cX3_det 27 = .ok (.lload 4, 2) := by decide +kernel
theorem dX3_det_29 : decode cX3_det 29 = .ok (.lload 6, 2) := by decide +kernel
theorem dX3_det_31 : decode cX3_det 31 = .ok (.lload 14, 2) := by decide +kernel
theorem dX3_det_33 : decode cX3_det 33 = .ok (.lmul, 1) := by decide +kernel
theorem dX3_det_34 : decode cX3_det 34 = .ok (.lload 8, 2) := by decide +kernel
theorem dX3_det_36 : decode cX3_det 36 = .ok (.lload 12, 2) := by decide +kernel
theorem dX3_det_38 : decode cX3_det 38 = .ok (.lmul, 1) := by decide +kernel
theorem dX3_det_39 : decode cX3_det 39 = .ok (.lsub, 1) := by decide +kernel
theorem dX3_det_40 : decode cX3_det 40 = .ok (.lmul, 1) := by decide +kernel
theorem dX3_det_41 : decode cX3_det 41 = .ok (.ladd, 1) := by decide +kernel
theorem dX3_det_42 : decode cX3_det 42 = .ok (.lreturn, 1) := by decide +kernel
set_option maxRecDepth 20000 in
theorem ggX3_layRound_X3_det : GoodIn wsX3_layRound wsX3_det := goodIn_r _ [17] (by decide +kernel) (by decide +kernel)
set_option maxRecDepth 20000 in
theorem gX3_layRound_X3_det : GoodIn wsX3_layRound (va_wsS RX3 76 yX3_det wsX3_det) := goodIn_app (goodIn_of _ (by decide +kernel)) ggX3_layRound_X3_det
theorem dX3_layRound_0 : decode cX3_layRound 0 = .ok (.aload_n 0, 1) := by decide +kernel
theorem dX3_layRound_1 : decode cX3_layRound 1 = .ok (.aload_n 0, 1) := by decide +kernel
theorem dX3_layRound_2 : decode cX3_layRound 2 = .ok (.getfield 54, 3) := by decide +kernel
theorem dX3_layRound_5 : decode cX3_layRound 5 = .ok (.aload_n 0, 1) := by decide +kernel
theorem dX3_layRound_6 : decode cX3_layRound 6 = .ok (.getfield 57, 3) := by decide +kernel
theorem dX3_layRound_9 : decode cX3_layRound 9 = .ok (.aload_n 0, 1) := by decide +kernel
theorem dX3_layRound_10 : decode cX3_layRound 10 = .ok (.getfield 48, 3) := by decide +kernel
theorem dX3_layRound_13 : decode cX3_layRound 13 = .ok (.aload_n 0, 1) := by decide +kernel
theorem dX3_layRound_14 : decode cX3_layRound 14 = .ok (.getfield 57, 3) := by decide +kernel
theorem dX3_layRound_17 : decode cX3_layRound 17 = .ok (.aload_n 0, 1) := by decide +kernel
theorem dX3_layRound_18 : decode cX3_layRound 18 = .ok (.getfield 60, 3) := by decide +kernel
theorem dX3_layRound_21 : decode cX3_layRound 21 = .ok (.aload_n 0, 1) := by decide +kernel
theorem dX3_layRound_22 : decode cX3_layRound 22 = .ok (.getfield 51, 3) := by decide +kernel
theorem dX3_layRound_25 : decode cX3_layRound 25 = .ok (.aload_n 0, 1) := by decide +kernel
theorem dX3_layRound_26 : decode cX3_layRound 26 = .ok (.getfield 48, 3) := by decide +kernel
theorem dX3_layRound_29 : decode cX3_layRound 29 = .ok (.aload_n 0, 1) := by decide +kernel
theorem dX3_layRound_30 : decode cX3_layRound 30 = .ok (.getfield 51, 3) := by decide +kernel
theorem dX3_layRound_33 : decode cX3_layRound 33 = .ok (.aload_n 0, 1) := by decide +kernel
theorem dX3_layRound_34 : decode cX3_layRound 34 = .ok (.getfield 44, 3) := by decide +kernel
theorem dX3_layRound_37 : decode cX3_layRound 37 = .ok (.invokestatic 76, 3) := by decide +kernel
theorem dX3_layRound_40 : decode cX3_layRound 40 = .ok (.putfield 80, 3) := by decide +kernel
theorem dX3_layRound_43 : decode cX3_layRound 43 = .ok (.aload_n 0, 1) := by decide +kernel
theorem dX3_layRound_44 : decode cX3_layRound 44 = .ok (.aload_n 0, 1) := by decide +kernel
theorem dX3_layRound_45 : decode cX3_layRound 45 = .ok (.getfield 66, 3) := by decide +kernel
theorem dX3_layRound_48 : decode cX3_layRound 48 = .ok (.aload_n 0, 1) := by decide +kernel
theorem dX3_layRound_49 : decode cX3_layRound 49 = .ok (.getfield 57, 3) := by decide +kernel
theorem dX3_layRound_52 : decode cX3_layRound 52 = .ok (.aload_n 0, 1) := by decide +kernel
theorem dX3_layRound_53 : decode cX3_layRound 53 = .ok (.getfield 48, 3) := by decide +kernel
theorem dX3_layRound_56 : decode cX3_layRound 56 = .ok (.aload_n 0, 1) := by decide +kernel
theorem dX3_layRound_57 : decode cX3_layRound 57 = .ok (.getfield 69, 3) := by decide +kernel
theorem dX3_layRound_60 : decode cX3_layRound 60 = .ok (.aload_n 0, 1) := by decide +kernel
theorem dX3_layRound_61 : decode cX3_layRound 61 = .ok (.getfield 60, 3) := by decide +kernel
theorem dX3_layRound_64 : decode cX3_layRound 64 = .ok (.aload_n 0, 1) := by decide +kernel
theorem dX3_layRound_65 : decode cX3_layRound 65 = .ok (.getfield 51, 3) := by decide +kernel
theorem dX3_layRound_68 : decode cX3_layRound 68 = .ok (.aload_n 0, 1) := by decide +kernel
theorem dX3_layRound_69 : decode cX3_layRound 69 = .ok (.getfield 63, 3) := by decide +kernel
theorem dX3_layRound_72 : decode cX3_layRound 72 = .ok (.aload_n 0, 1) := by decide +kernel
theorem dX3_layRound_73 : decode cX3_layRound 73 = .ok (.getfield 51, 3) := by decide +kernel
theorem dX3_layRound_76 : decode cX3_layRound 76 = .ok (.aload_n 0, 1) := by decide +kernel
theorem dX3_layRound_77 : decode cX3_layRound 77 = .ok (.getfield 44, 3) := by decide +kernel
theorem dX3_layRound_80 : decode cX3_layRound 80 = .ok (.invokestatic 76, 3) := by decide +kernel
theorem dX3_layRound_83 : decode cX3_layRound 83 = .ok (.putfield 83, 3) := by decide +kernel
theorem dX3_layRound_86 : decode cX3_layRound 86 = .ok (.aload_n 0, 1) := by decide +kernel
theorem dX3_layRound_87 : decode cX3_layRound 87 = .ok (.aload_n 0, 1) := by decide +kernel
theorem dX3_layRound_88 : decode cX3_layRound 88 = .ok (.getfield 54, 3) := by decide +kernel
theorem dX3_layRound_91 : decode cX3_layRound 91 = .ok (.aload_n 0, 1) := by decide +kernel
theorem dX3_layRound_92 : decode cX3_layRound 92 = .ok (.getfield 66, 3) := by decide +kernel
theorem dX3_layRound_95 : decode cX3_layRound 95 = .ok (.aload_n 0, 1) := by decide +kernel
theorem dX3_layRound_96 : decode cX3_layRound 96 = .ok (.getfield 48, 3) := by decide +kernel
theorem dX3_layRound_99 : decode cX3_layRound 99 = .ok (.aload_n 0, 1) := by decide +kernel
theorem dX3_layRound_100 : decode cX3_layRound 100 = .ok (.getfield 57, 3) := by decide +kernel
theorem dX3_layRound_103 : decode cX3_layRound 103 = .ok (.aload_n 0, 1) := by decide +kernel
theorem dX3_layRound_104 : decode cX3_layRound 104 = .ok (.getfield 69, 3) := by decide +kernel
theorem dX3_layRound_107 : decode cX3_layRound 107 = .ok (.aload_n 0, 1) := by decide +kernel
theorem dX3_layRound_108 : decode cX3_layRound 108 = .ok (.getfield 51, 3) := by decide +kernel
theorem dX3_layRound_111 : decode cX3_layRound 111 = .ok (.aload_n 0, 1) := by decide +kernel
theorem dX3_layRound_112 : decode cX3_layRound 112 = .ok (.getfield 48, 3) := by decide +kernel
theorem dX3_layRound_115 : decode cX3_layRound 115 = .ok (.aload_n 0, 1) := by decide +kernel
theorem dX3_layRound_116 : decode cX3_layRound 116 = .ok (.getfield 63, 3) := by decide +kernel
theorem dX3_layRound_119 : decode cX3_layRound 119 = .ok (.aload_n 0, 1) := by decide +kernel
theorem dX3_layRound_120 : decode cX3_layRound 120 = .ok (.getfield 44, 3) := by decide +kernel
theorem dX3_layRound_123 : decode cX3_layRound 123 = .ok (.invokestatic 76, 3) := by decide +kernel
theorem dX3_layRound_126 : decode cX3_layRound 126 = .ok (.putfield 86, 3) := by decide +kernel
theorem dX3_layRound_129 : decode cX3_layRound 129 = .ok (.aload_n 0, 1) := by decide +kernel
theorem dX3_layRound_130 : decode cX3_layRound 130 = .ok (.aload_n 0, 1) := by decide +kernel
theorem dX3_layRound_131 : decode cX3_layRound 131 = .ok (.getfield 54, 3) := by decide +kernel
theorem dX3_layRound_134 : decode cX3_layRound 134 = .ok (.aload_n 0, 1) := by decide +kernel
theorem dX3_layRound_135 : decode cX3_layRound 135 = .ok (.getfield 57, 3) := by decide +kernel
theorem dX3_layRound_138 : decode cX3_layRound 138 = .ok (.aload_n 0, 1) := by decide +kernel
theorem dX3_layRound_139 : decode cX3_layRound 139 = .ok (.getfield 66, 3) := by decide +kernel
theorem dX3_layRound_142 : decode cX3_layRound 142 = .ok (.aload_n 0, 1) := by decide +kernel
theorem dX3_layRound_143 : decode cX3_layRound 143 = .ok (.getfield 57, 3) := by decide +kernel
theorem dX3_layRound_146 : decode cX3_layRound 146 = .ok (.aload_n 0, 1) := by decide +kernel
theorem dX3_layRound_147 : decode cX3_layRound 147 = .ok (.getfield 60, 3) := by decide +kernel
theorem dX3_layRound_150 : decode cX3_layRound 150 = .ok (.aload_n 0, 1) := by decide +kernel
theorem dX3_layRound_151 : decode cX3_layRound 151 = .ok (.getfield 69, 3) := by decide +kernel
theorem dX3_layRound_154 : decode cX3_layRound 154 = .ok (.aload_n 0, 1) := by decide +kernel
theorem dX3_layRound_155 : decode cX3_layRound 155 = .ok (.getfield 48, 3) := by decide +kernel
theorem dX3_layRound_158 : decode cX3_layRound 158 = .ok (.aload_n 0, 1) := by decide +kernel
theorem dX3_layRound_159 : decode cX3_layRound 159 = .ok (.getfield 51, 3) := by decide +kernel
theorem dX3_layRound_162 : decode cX3_layRound 162 = .ok (.aload_n 0, 1) := by decide +kernel
theorem dX3_layRound_163 : decode cX3_layRound 163 = .ok (.getfield 63, 3) := by decide +kernel
theorem dX3_layRound_166 : decode cX3_layRound 166 = .ok (.invokestatic 76, 3) := by decide +kernel
theorem dX3_layRound_169 : decode cX3_layRound 169 = .ok (.putfield 89, 3) := by decide +kernel
theorem dX3_layRound_172 : decode cX3_layRound 172 = .ok (.return_, 1) := by decide +kernel
set_option maxRecDepth 20000 in
theorem ggX3_lay_X3_sumSet : GoodIn wsX3_lay wsX3_sumSet := goodIn_r _ [6, 7, 8, 9, 10, 11, 12, 13, 14, 15, 16, 17, 18, 19, 5, 20, 21, 22, 23, 34, 35, 36, 37, 38, 39, 40, 41, 42, 43, 44, 45, 46, 47, 48, 49] (by decide +kernel) (by decide +kernel)
set_option maxRecDepth 20000 in
theorem gX3_lay_X3_sumSet : GoodIn wsX3_lay (wsV RX3 92 RX3 yX3_sumSet wsX3_sumSet) := goodIn_app (goodIn_of _ (by decide +kernel)) ggX3_lay_X3_sumSet
set_option maxRecDepth 20000 in
theorem ggX3_lay_X3_layRound : GoodIn wsX3_lay wsX3_layRound := goodIn_r _ [27, 10, 11, 8, 12, 9, 7, 1, 14, 15, 13, 28, 29, 30, 31, 32, 5, 33, 34, 35, 36, 37, 38, 39, 40, 41, 42, 43, 44, 45, 46, 47, 48, 49] (by decide +kernel) (by decide +kernel)
set_option maxRecDepth 20000 in
theorem gX3_lay_X3_layRound : GoodIn wsX3_lay (wsV RX3 96 RX3 yX3_layRound wsX3_layRound) := goodIn_app (goodIn_of _ (by decide +kernel)) ggX3_lay_X3_layRound
theorem dX3_lay_0 : decode cX3_lay 0 = .ok (.aload_n 0, 1) := by decide +kernel
theorem dX3_lay_1 : decode cX3_lay 1 = .ok (.iload_n 1, 1) := by decide +kernel
theorem dX3_lay_2 : decode cX3_lay 2 = .ok (.invokevirtual 92, 3) := by decide +kernel
theorem dX3_lay_5 : decode cX3_lay 5 = .ok (.aload_n 0, 1) := by decide +kernel
theorem dX3_lay_6 : decode cX3_lay 6 = .ok (.invokevirtual 96, 3) := by decide +kernel
theorem dX3_lay_9 : decode cX3_lay 9 = .ok (.aload_n 0, 1) := by decide +kernel
theorem dX3_lay_10 : decode cX3_lay 10 = .ok (.getfield 80, 3) := by decide +kernel
theorem dX3_lay_13 : decode cX3_lay 13 = .ok (.lconst 0, 1) := by decide +kernel
theorem dX3_lay_14 : decode cX3_lay 14 = .ok (.lcmp, 1) := by decide +kernel
theorem dX3_lay_15 : decode cX3_lay 15 = .ok (.ifCond .eq 7, 3) := by decide +kernel
theorem dX3_lay_18 : decode cX3_lay 18 = .ok (.iconst 1, 1) := by decide +kernel
theorem dX3_lay_19 : decode cX3_lay 19 = .ok (.goto 4, 3) := by decide +kernel
theorem dX3_lay_22 : decode cX3_lay 22 = .ok (.iconst 0, 1) := by decide +kernel
theorem dX3_lay_23 : decode cX3_lay 23 = .ok (.ireturn, 1) := by decide +kernel
set_option maxRecDepth 20000 in
theorem ggX3_layTaken_X3_lay : GoodIn wsX3_layTaken wsX3_lay := goodIn_r _ [6, 7, 8, 9, 10, 5, 11, 12, 13, 14, 15, 16, 17, 18, 19, 20, 1, 21, 22, 23, 24, 25, 26, 27, 28, 29, 30, 31, 32, 33, 34, 35, 36, 37, 38, 39, 40, 41, 42, 43, 44, 45, 46, 47, 48, 49, 50, 51, 52, 53] (by decide +kernel) (by decide +kernel)
set_option maxRecDepth 20000 in
theorem gX3_layTaken_X3_lay : GoodIn wsX3_layTaken (wsV RX3 99 RX3 yX3_lay wsX3_lay) := goodIn_app (goodIn_of _ (by decide +kernel)) ggX3_layTaken_X3_lay
theorem dX3_layTaken_0 : decode cX3_layTaken 0 = .ok (.aload_n 0, 1) := by decide +kernel
theorem dX3_layTaken_1 : decode cX3_layTaken 1 = .ok (.aload_n 0, 1) := by decide +kernel
theorem dX3_layTaken_2 : decode cX3_layTaken 2 = .ok (.getfield 7, 3) := by decide +kernel
theorem dX3_layTaken_5 : decode cX3_layTaken 5 = .ok (.bipush 21, 2) := by decide +kernel
theorem dX3_layTaken_7 : decode cX3_layTaken 7 = .ok (.iaload, 1) := by decide +kernel
theorem dX3_layTaken_8 : decode cX3_layTaken 8 = .ok (.invokevirtual 99, 3) := by decide +kernel
theorem dX3_layTaken_11 : decode cX3_layTaken 11 = .ok (.ireturn, 1) := by decide +kernel
set_option maxRecDepth 20000 in
theorem ggX3_offOf_X3_power : GoodIn wsX3_offOf wsX3_power := goodIn_r _ [9] (by decide +kernel) (by decide +kernel)
set_option maxRecDepth 20000 in
theorem gX3_offOf_X3_power : GoodIn wsX3_offOf (va_wsS RX3 40 yX3_power wsX3_power) := goodIn_app (goodIn_of _ (by decide +kernel)) ggX3_offOf_X3_power
theorem dX3_offOf_0 : decode cX3_offOf 0 = .ok (.aload_n 0, 1) := by decide +kernel
theorem dX3_offOf_1 : decode cX3_offOf 1 = .ok (.getfield 7, 3) := by decide +kernel
theorem dX3_offOf_4 : decode cX3_offOf 4 = .ok (.iconst 0, 1) := by decide +kernel
theorem dX3_offOf_5 : decode cX3_offOf 5 = .ok (.iload_n 1, 1) := by decide +kernel
theorem dX3_offOf_6 : decode cX3_offOf 6 = .ok (.iadd, 1) := by decide +kernel
theorem dX3_offOf_7 : decode cX3_offOf 7 = .ok (.iaload, 1) := by decide +kernel
theorem dX3_offOf_8 : decode cX3_offOf 8 = .ok (.istore_n 2, 1) := by decide +kernel
theorem dX3_offOf_9 : decode cX3_offOf 9 = .ok (.aload_n 0, 1) := by decide +kernel
theorem dX3_offOf_10 : decode cX3_offOf 10 = .ok (.getfield 7, 3) := by decide +kernel
theorem dX3_offOf_13 : decode cX3_offOf 13 = .ok (.bipush 10, 2) := by decide +kernel
theorem dX3_offOf_15 : decode cX3_offOf 15 = .ok (.iload_n 1, 1) := by decide +kernel
theorem dX3_offOf_16 : decode cX3_offOf 16 = .ok (.iadd, 1) := by decide +kernel
theorem dX3_offOf_17 : decode cX3_offOf 17 = .ok (.iaload, 1) := by decide +kernel
theorem dX3_offOf_18 : decode cX3_offOf 18 = .ok (.istore_n 3, 1) := by decide +kernel
theorem dX3_offOf_19 : decode cX3_offOf 19 = .ok (.iload_n 2, 1) := by decide +kernel
theorem dX3_offOf_20 : decode cX3_offOf 20 = .ok (.iload_n 3, 1) := by decide +kernel
theorem dX3_offOf_21 : decode cX3_offOf 21 = .ok (.invokestatic 40, 3) := by decide +kernel
theorem dX3_offOf_24 : decode cX3_offOf 24 = .ok (.i2l, 1) := by decide +kernel
theorem dX3_offOf_25 : decode cX3_offOf 25 = .ok (.aload_n 0, 1) := by decide +kernel
theorem dX3_offOf_26 : decode cX3_offOf 26 = .ok (.getfield 80, 3) := by decide +kernel
theorem dX3_offOf_29 : decode cX3_offOf 29 = .ok (.lmul, 1) := by decide +kernel
theorem dX3_offOf_30 : decode cX3_offOf 30 = .ok (.aload_n 0, 1) := by decide +kernel
theorem dX3_offOf_31 : decode cX3_offOf 31 = .ok (.getfield 83, 3) := by decide +kernel
theorem dX3_offOf_34 : decode cX3_offOf 34 = .ok (.iload_n 2, 1) := by decide +kernel
theorem dX3_offOf_35 : decode cX3_offOf 35 = .ok (.i2l, 1) := by decide +kernel
theorem dX3_offOf_36 : decode cX3_offOf 36 = .ok (.lmul, 1) := by decide +kernel
theorem dX3_offOf_37 : decode cX3_offOf 37 = .ok (.lsub, 1) := by decide +kernel
theorem dX3_offOf_38 : decode cX3_offOf 38 = .ok (.aload_n 0, 1) := by decide +kernel
theorem dX3_offOf_39 : decode cX3_offOf 39 = .ok (.getfield 86, 3) := by decide +kernel
theorem dX3_offOf_42 : decode cX3_offOf 42 = .ok (.iload_n 3, 1) := by decide +kernel
theorem dX3_offOf_43 : decode cX3_offOf 43 = .ok (.i2l, 1) := by decide +kernel
theorem dX3_offOf_44 : decode cX3_offOf 44 = .ok (.lmul, 1) := by decide +kernel
theorem dX3_offOf_45 : decode cX3_offOf 45 = .ok (.lsub, 1) := by decide +kernel
theorem dX3_offOf_46 : decode cX3_offOf 46 = .ok (.aload_n 0, 1) := by decide +kernel
theorem dX3_offOf_47 : decode cX3_offOf 47 = .ok (.getfield 89, 3) := by decide +kernel
theorem dX3_offOf_50 : decode cX3_offOf 50 = .ok (.lsub, 1) := by decide +kernel
theorem dX3_offOf_51 : decode cX3_offOf 51 = .ok (.lreturn, 1) := by decide +kernel
theorem dX3_plain_0 : decode cX3_plain 0 = .ok (.lload_n 0, 1) := by decide +kernel
theorem dX3_plain_1 : decode cX3_plain 1 = .ok (.lconst 0, 1) := by decide +kernel
theorem dX3_plain_2 : decode cX3_plain 2 = .ok (.lcmp, 1) := by decide +kernel
theorem dX3_plain_3 : decode cX3_plain 3 = .ok (.ifCond .ge 8, 3) := by decide +kernel
theorem dX3_plain_6 : decode cX3_plain 6 = .ok (.lload_n 0, 1) := by decide +kernel
theorem dX3_plain_7 : decode cX3_plain 7 = .ok (.lneg, 1) := by decide +kernel
theorem dX3_plain_8 : decode cX3_plain 8 = .ok (.goto 4, 3) := by decide +kernel
theorem dX3_plain_11 : decode cX3_plain 11 = .ok (.lload_n 0, 1) := by decide +kernel
theorem dX3_plain_12 : decode cX3_plain 12 = .ok (.lreturn, 1) := by decide +kernel
theorem dX3_common_0 : decode cX3_common 0 = .ok (.lload_n 0, 1) := by decide +kernel
theorem dX3_common_1 : decode cX3_common 1 = .ok (.lstore 4, 2) := by decide +kernel
theorem dX3_common_3 : decode cX3_common 3 = .ok (.lload_n 2, 1) := by decide +kernel
theorem dX3_common_4 : decode cX3_common 4 = .ok (.lstore 6, 2) := by decide +kernel
theorem dX3_common_6 : decode cX3_common 6 = .ok (.lload 6, 2) := by decide +kernel
theorem dX3_common_8 : decode cX3_common 8 = .ok (.lconst 0, 1) := by decide +kernel
theorem dX3_common_9 : decode cX3_common 9 = .ok (.lcmp, 1) := by decide +kernel
theorem dX3_common_10 : decode cX3_common 10 = .ok (.ifCond .eq 21, 3) := by decide +kernel
theorem dX3_common_13 : decode cX3_common 13 = .ok (.lload 4, 2) := by decide +kernel
theorem dX3_common_15 : decode cX3_common 15 = .ok (.lload 6, 2) := by decide +kernel
theorem dX3_common_17 : decode cX3_common 17 = .ok (.lrem, 1) := by decide +kernel
theorem dX3_common_18 : decode cX3_common 18 = .ok (.lstore 8, 2) := by decide +kernel
theorem dX3_common_20 : decode cX3_common 20 = .ok (.lload 6, 2) := by decide +kernel
theorem dX3_common_22 : decode cX3_common 22 = .ok (.lstore 4, 2) := by decide +kernel
theorem dX3_common_24 : decode cX3_common 24 = .ok (.lload 8, 2) := by decide +kernel
theorem dX3_common_26 : decode cX3_common 26 = .ok (.lstore 6, 2) := by decide +kernel
theorem dX3_common_28 : decode cX3_common 28 = .ok (.goto (-22), 3) := by decide +kernel
theorem dX3_common_31 : decode cX3_common 31 = .ok (.lload 4, 2) := by decide +kernel
theorem dX3_common_33 : decode cX3_common 33 = .ok (.lreturn, 1) := by decide +kernel
set_option maxRecDepth 20000 in
theorem ggX3_told_X3_plain : GoodIn wsX3_told wsX3_plain := goodIn_r _ [4] (by decide +kernel) (by decide +kernel)
set_option maxRecDepth 20000 in
theorem gX3_told_X3_plain : GoodIn wsX3_told (va_wsS RX3 102 yX3_plain wsX3_plain) := goodIn_app (goodIn_of _ (by decide +kernel)) ggX3_told_X3_plain
set_option maxRecDepth 20000 in
theorem ggX3_told_X3_common : GoodIn wsX3_told wsX3_common := goodIn_r _ [7] (by decide +kernel) (by decide +kernel)
set_option maxRecDepth 20000 in
theorem gX3_told_X3_common : GoodIn wsX3_told (va_wsS RX3 106 yX3_common wsX3_common) := goodIn_app (goodIn_of _ (by decide +kernel)) ggX3_told_X3_common
theorem dX3_told_0 : decode cX3_told 0 = .ok (.lload_n 2, 1) := by decide +kernel
theorem dX3_told_1 : decode cX3_told 1 = .ok (.lload_n 0, 1) := by decide +kernel
theorem dX3_told_2 : decode cX3_told 2 = .ok (.invokestatic 102, 3) := by decide +kernel
theorem dX3_told_5 : decode cX3_told 5 = .ok (.invokestatic 106, 3) := by decide +kernel
theorem dX3_told_8 : decode cX3_told 8 = .ok (.lstore 5, 2) := by decide +kernel
theorem dX3_told_10 : decode cX3_told 10 = .ok (.iload 4, 2) := by decide +kernel
theorem dX3_told_12 : decode cX3_told 12 = .ok (.ifCond .ne 10, 3) := by decide +kernel
theorem dX3_told_15 : decode cX3_told 15 = .ok (.lload_n 0, 1) := by decide +kernel
theorem dX3_told_16 : decode cX3_told 16 = .ok (.lload 5, 2) := by decide +kernel
theorem dX3_told_18 : decode cX3_told 18 = .ok (.ldiv, 1) := by decide +kernel
theorem dX3_told_19 : decode cX3_told 19 = .ok (.goto 7, 3) := by decide +kernel
theorem dX3_told_22 : decode cX3_told 22 = .ok (.lload_n 2, 1) := by decide +kernel
theorem dX3_told_23 : decode cX3_told 23 = .ok (.lload 5, 2) := by decide +kernel
theorem dX3_told_25 : decode cX3_told 25 = .ok (.ldiv, 1) := by decide +kernel
theorem dX3_told_26 : decode cX3_told 26 = .ok (.lreturn, 1) := by decide +kernel
set_option maxRecDepth 20000 in
theorem ggX3_round_X3_in : GoodIn wsX3_round wsX3_in := goodIn_r _ [11] (by decide +kernel) (by decide +kernel)
set_option maxRecDepth 20000 in
theorem gX3_round_X3_in : GoodIn wsX3_round (va_wsS RX3 20 yX3_in wsX3_in) := goodIn_app (goodIn_of _ (by decide +kernel)) ggX3_round_X3_in
set_option maxRecDepth 20000 in
theorem ggX3_round_X3_layTaken : GoodIn wsX3_round wsX3_layTaken := goodIn_r _ [15, 16, 17, 18, 19, 10, 20, 7, 21, 22, 23, 24, 25, 26, 27, 28, 29, 30, 31, 32, 33, 34, 35, 36, 37, 38, 39, 40, 41, 42, 43, 44, 4, 5, 6, 45, 46, 47, 57, 58, 59, 60, 61, 62, 63, 64, 65, 66, 67, 68, 69, 70, 71, 72] (by decide +kernel) (by decide +kernel)
set_option maxRecDepth 20000 in
theorem gX3_round_X3_layTaken : GoodIn wsX3_round (wsV RX3 114 RX3 yX3_layTaken wsX3_layTaken) := goodIn_app (goodIn_of _ (by decide +kernel)) ggX3_round_X3_layTaken
set_option maxRecDepth 20000 in
theorem ggX3_round_X3_told : GoodIn wsX3_round wsX3_told := goodIn_r _ [50, 51, 52, 10, 53, 54, 55, 56] (by decide +kernel) (by decide +kernel)
set_option maxRecDepth 20000 in
theorem gX3_round_X3_told : GoodIn wsX3_round (va_wsS RX3 120 yX3_told wsX3_told) := goodIn_app (goodIn_of _ (by decide +kernel)) ggX3_round_X3_told
theorem dX3_round_0 : decode cX3_round 0 = .ok (.iload_n 1, 1) := by decide +kernel
theorem dX3_round_1 : decode cX3_round 1 = .ok (.i2l, 1) := by decide +kernel
theorem dX3_round_2 : decode cX3_round 2 = .ok (.lconst 0, 1) := by decide +kernel
theorem dX3_round_3 : decode cX3_round 3 = .ok (.ldc2_w 110, 3) := by decide +kernel
theorem dX3_round_6 : decode cX3_round 6 = .ok (.invokestatic 20, 3) := by decide +kernel
theorem dX3_round_9 : decode cX3_round 9 = .ok (.ifCond .eq 13, 3) := by decide +kernel
theorem dX3_round_12 : decode cX3_round 12 = .ok (.iload_n 2, 1) := by decide +kernel
theorem dX3_round_13 : decode cX3_round 13 = .ok (.i2l, 1) := by decide +kernel
theorem dX3_round_14 : decode cX3_round 14 = .ok (.lconst 0, 1) := by decide +kernel
theorem dX3_round_15 : decode cX3_round 15 = .ok (.lconst 1, 1) := by decide +kernel
theorem dX3_round_16 : decode cX3_round 16 = .ok (.invokestatic 20, 3) := by decide +kernel
theorem dX3_round_19 : decode cX3_round 19 = .ok (.ifCond .ne 7, 3) := by decide +kernel
theorem dX3_round_22 : decode cX3_round 22 = .ok (.ldc2_w 112, 3) := by decide +kernel
theorem dX3_round_25 : decode cX3_round 25 = .ok (.lreturn, 1) := by decide +kernel
theorem dX3_round_26 : decode cX3_round 26 = .ok (.aload_n 0, 1) := by decide +kernel
theorem dX3_round_27 : decode cX3_round 27 = .ok (.invokevirtual 114, 3) := by decide +kernel
theorem dX3_round_30 : decode cX3_round 30 = .ok (.ifCond .ne 7, 3) := by decide +kernel
theorem dX3_round_33 : decode cX3_round 33 = .ok (.ldc2_w 118, 3) := by decide +kernel
theorem dX3_round_36 : decode cX3_round 36 = .ok (.lreturn, 1) := by decide +kernel
theorem dX3_round_37 : decode cX3_round 37 = .ok (.iload_n 1, 1) := by decide +kernel
theorem dX3_round_38 : decode cX3_round 38 = .ok (.ifCond .ne 10, 3) := by decide +kernel
theorem dX3_round_41 : decode cX3_round 41 = .ok (.aload_n 0, 1) := by decide +kernel
theorem dX3_round_42 : decode cX3_round 42 = .ok (.getfield 83, 3) := by decide +kernel
theorem dX3_round_45 : decode cX3_round 45 = .ok (.goto 19, 3) := by decide +kernel
theorem dX3_round_48 : decode cX3_round 48 = .ok (.iload_n 1, 1) := by decide +kernel
theorem dX3_round_49 : decode cX3_round 49 = .ok (.iconst 1, 1) := by decide +kernel
theorem dX3_round_50 : decode cX3_round 50 = .ok (.if_icmp .ne 10, 3) := by decide +kernel
theorem dX3_round_53 : decode cX3_round 53 = .ok (.aload_n 0, 1) := by decide +kernel
theorem dX3_round_54 : decode cX3_round 54 = .ok (.getfield 86, 3) := by decide +kernel
theorem dX3_round_57 : decode cX3_round 57 = .ok (.goto 7, 3) := by decide +kernel
theorem dX3_round_60 : decode cX3_round 60 = .ok (.aload_n 0, 1) := by decide +kernel
theorem dX3_round_61 : decode cX3_round 61 = .ok (.getfield 89, 3) := by decide +kernel
theorem dX3_round_64 : decode cX3_round 64 = .ok (.aload_n 0, 1) := by decide +kernel
theorem dX3_round_65 : decode cX3_round 65 = .ok (.getfield 80, 3) := by decide +kernel
theorem dX3_round_68 : decode cX3_round 68 = .ok (.iload_n 2, 1) := by decide +kernel
theorem dX3_round_69 : decode cX3_round 69 = .ok (.invokestatic 120, 3) := by decide +kernel
theorem dX3_round_72 : decode cX3_round 72 = .ok (.lreturn, 1) := by decide +kernel
set_option maxRecDepth 20000 in
theorem ggX3_middle_X3_in : GoodIn wsX3_middle wsX3_in := goodIn_r _ [10] (by decide +kernel) (by decide +kernel)
set_option maxRecDepth 20000 in
theorem gX3_middle_X3_in : GoodIn wsX3_middle (va_wsS RX3 20 yX3_in wsX3_in) := goodIn_app (goodIn_of _ (by decide +kernel)) ggX3_middle_X3_in
set_option maxRecDepth 20000 in
theorem ggX3_middle_X3_layTaken : GoodIn wsX3_middle wsX3_layTaken := goodIn_r _ [14, 15, 16, 17, 18, 9, 19, 6, 20, 21, 22, 23, 24, 25, 26, 27, 28, 29, 30, 31, 32, 33, 34, 35, 36, 37, 38, 39, 40, 41, 42, 43, 3, 4, 44, 45, 46, 47, 57, 58, 59, 60, 61, 62, 63, 64, 65, 66, 67, 68, 69, 70, 71, 72] (by decide +kernel) (by decide +kernel)
set_option maxRecDepth 20000 in
theorem gX3_middle_X3_layTaken : GoodIn wsX3_middle (wsV RX3 114 RX3 yX3_layTaken wsX3_layTaken) := goodIn_app (goodIn_of _ (by decide +kernel)) ggX3_middle_X3_layTaken
set_option maxRecDepth 20000 in
theorem ggX3_middle_X3_told : GoodIn wsX3_middle wsX3_told := goodIn_r _ [50, 51, 52, 9, 53, 54, 55, 56] (by decide +kernel) (by decide +kernel)
set_option maxRecDepth 20000 in
theorem gX3_middle_X3_told : GoodIn wsX3_middle (va_wsS RX3 120 yX3_told wsX3_told) := goodIn_app (goodIn_of _ (by decide +kernel)) ggX3_middle_X3_told
theorem dX3_middle_0 : decode cX3_middle 0 = .ok (.iload_n 1, 1) := by decide +kernel
theorem dX3_middle_1 : decode cX3_middle 1 = .ok (.i2l, 1) := by decide +kernel
theorem dX3_middle_2 : decode cX3_middle 2 = .ok (.lconst 0, 1) := by decide +kernel
theorem dX3_middle_3 : decode cX3_middle 3 = .ok (.lconst 1, 1) := by decide +kernel
theorem dX3_middle_4 : decode cX3_middle 4 = .ok (.invokestatic 20, 3) := by decide +kernel
theorem dX3_middle_7 : decode cX3_middle 7 = .ok (.ifCond .eq 13, 3) := by decide +kernel
theorem dX3_middle_10 : decode cX3_middle 10 = .ok (.iload_n 2, 1) := by decide +kernel
theorem dX3_middle_11 : decode cX3_middle 11 = .ok (.i2l, 1) := by decide +kernel
theorem dX3_middle_12 : decode cX3_middle 12 = .ok (.lconst 0, 1) := by decide +kernel
theorem dX3_middle_13 : decode cX3_middle 13 = .ok (.lconst 1, 1) := by decide +kernel
theorem dX3_middle_14 : decode cX3_middle 14 = .ok (.invokestatic 20, 3) := by decide +kernel
theorem dX3_middle_17 : decode cX3_middle 17 = .ok (.ifCond .ne 7, 3) := by decide +kernel
theorem dX3_middle_20 : decode cX3_middle 20 = .ok (.ldc2_w 112, 3) := by decide +kernel
theorem dX3_middle_23 : decode cX3_middle 23 = .ok (.lreturn, 1) := by decide +kernel
theorem dX3_middle_24 : decode cX3_middle 24 = .ok (.aload_n 0, 1) := by decide +kernel
theorem dX3_middle_25 : decode cX3_middle 25 = .ok (.invokevirtual 114, 3) := by decide +kernel
theorem dX3_middle_28 : decode cX3_middle 28 = .ok (.ifCond .ne 7, 3) := by decide +kernel
theorem dX3_middle_31 : decode cX3_middle 31 = .ok (.ldc2_w 118, 3) := by decide +kernel
theorem dX3_middle_34 : decode cX3_middle 34 = .ok (.lreturn, 1) := by decide +kernel
theorem dX3_middle_35 : decode cX3_middle 35 = .ok (.iload_n 1, 1) := by decide +kernel
theorem dX3_middle_36 : decode cX3_middle 36 = .ok (.ifCond .ne 10, 3) := by decide +kernel
theorem dX3_middle_39 : decode cX3_middle 39 = .ok (.aload_n 0, 1) := by decide +kernel
theorem dX3_middle_40 : decode cX3_middle 40 = .ok (.getfield 83, 3) := by decide +kernel
theorem dX3_middle_43 : decode cX3_middle 43 = .ok (.goto 7, 3) := by decide +kernel
theorem dX3_middle_46 : decode cX3_middle 46 = .ok (.aload_n 0, 1) := by decide +kernel
theorem dX3_middle_47 : decode cX3_middle 47 = .ok (.getfield 86, 3) := by decide +kernel
theorem dX3_middle_50 : decode cX3_middle 50 = .ok (.ldc2_w 110, 3) := by decide +kernel
theorem dX3_middle_53 : decode cX3_middle 53 = .ok (.aload_n 0, 1) := by decide +kernel
theorem dX3_middle_54 : decode cX3_middle 54 = .ok (.getfield 80, 3) := by decide +kernel
theorem dX3_middle_57 : decode cX3_middle 57 = .ok (.lmul, 1) := by decide +kernel
theorem dX3_middle_58 : decode cX3_middle 58 = .ok (.iload_n 2, 1) := by decide +kernel
theorem dX3_middle_59 : decode cX3_middle 59 = .ok (.invokestatic 120, 3) := by decide +kernel
theorem dX3_middle_62 : decode cX3_middle 62 = .ok (.lreturn, 1) := by decide +kernel
set_option maxRecDepth 20000 in
theorem ggX3_off_X3_isSample : GoodIn wsX3_off wsX3_isSample := goodIn_r _ [9, 10, 11, 12, 8, 13, 65, 66, 67, 68, 69, 70, 71, 72, 73, 74, 75, 76, 77, 78, 79, 80] (by decide +kernel) (by decide +kernel)
set_option maxRecDepth 20000 in
theorem gX3_off_X3_isSample : GoodIn wsX3_off (wsV RX3 32 RX3 yX3_isSample wsX3_isSample) := goodIn_app (goodIn_of _ (by decide +kernel)) ggX3_off_X3_isSample
set_option maxRecDepth 20000 in
theorem ggX3_off_X3_in : GoodIn wsX3_off wsX3_in := goodIn_r _ [13] (by decide +kernel) (by decide +kernel)
set_option maxRecDepth 20000 in
theorem gX3_off_X3_in : GoodIn wsX3_off (va_wsS RX3 20 yX3_in wsX3_in) := goodIn_app (goodIn_of _ (by decide +kernel)) ggX3_off_X3_in
set_option maxRecDepth 20000 in
theorem ggX3_off_X3_layTaken : GoodIn wsX3_off wsX3_layTaken := goodIn_r _ [17, 10, 18, 19, 20, 8, 21, 4, 22, 23, 24, 25, 26, 27, 28, 29, 30, 31, 32, 33, 34, 35, 36, 37, 38, 39, 40, 41, 42, 43, 44, 45, 46, 47, 48, 49, 50, 51, 65, 66, 67, 68, 69, 70, 71, 72, 73, 74, 75, 76, 77, 78, 79, 80] (by decide +kernel) (by decide +kernel)
set_option maxRecDepth 20000 in
theorem gX3_off_X3_layTaken : GoodIn wsX3_off (wsV RX3 114 RX3 yX3_layTaken wsX3_layTaken) := goodIn_app (goodIn_of _ (by decide +kernel)) ggX3_off_X3_layTaken
set_option maxRecDepth 20000 in
theorem ggX3_off_X3_offOf : GoodIn wsX3_off wsX3_offOf := goodIn_r _ [55, 10, 4, 46, 47, 48, 39, 40, 8, 41, 65, 66, 67, 68, 69, 70, 71, 72, 73, 74, 75, 76, 77, 78, 79, 80] (by decide +kernel) (by decide +kernel)
set_option maxRecDepth 20000 in
theorem gX3_off_X3_offOf : GoodIn wsX3_off (wsV RX3 126 RX3 yX3_offOf wsX3_offOf) := goodIn_app (goodIn_of _ (by decide +kernel)) ggX3_off_X3_offOf
set_option maxRecDepth 20000 in
theorem ggX3_off_X3_told : GoodIn wsX3_off wsX3_told := goodIn_r _ [58, 59, 60, 8, 61, 62, 63, 64] (by decide +kernel) (by decide +kernel)
set_option maxRecDepth 20000 in
theorem gX3_off_X3_told : GoodIn wsX3_off (va_wsS RX3 120 yX3_told wsX3_told) := goodIn_app (goodIn_of _ (by decide +kernel)) ggX3_off_X3_told
theorem dX3_off_0 : decode cX3_off 0 = .ok (.aload_n 0, 1) := by decide +kernel
theorem dX3_off_1 : decode cX3_off 1 = .ok (.iload_n 1, 1) := by decide +kernel
theorem dX3_off_2 : decode cX3_off 2 = .ok (.invokevirtual 32, 3) := by decide +kernel
theorem dX3_off_5 : decode cX3_off 5 = .ok (.ifCond .ne 7, 3) := by decide +kernel
theorem dX3_off_8 : decode cX3_off 8 = .ok (.ldc2_w 124, 3) := by decide +kernel
theorem dX3_off_11 : decode cX3_off 11 = .ok (.lreturn, 1) := by decide +kernel
theorem dX3_off_12 : decode cX3_off 12 = .ok (.iload_n 2, 1) := by decide +kernel
theorem dX3_off_13 : decode cX3_off 13 = .ok (.i2l, 1) := by decide +kernel
theorem dX3_off_14 : decode cX3_off 14 = .ok (.lconst 0, 1) := by decide +kernel
theorem dX3_off_15 : decode cX3_off 15 = .ok (.lconst 1, 1) := by decide +kernel
theorem dX3_off_16 : decode cX3_off 16 = .ok (.invokestatic 20, 3) := by decide +kernel
theorem dX3_off_19 : decode cX3_off 19 = .ok (.ifCond .ne 7, 3) := by decide +kernel
theorem dX3_off_22 : decode cX3_off 22 = .ok (.ldc2_w 112, 3) := by decide +kernel
theorem dX3_off_25 : decode cX3_off 25 = .ok (.lreturn, 1) := by decide +kernel
theorem dX3_off_26 : decode cX3_off 26 = .ok (.aload_n 0, 1) := by decide +kernel
theorem dX3_off_27 : decode cX3_off 27 = .ok (.invokevirtual 114, 3) := by decide +kernel
theorem dX3_off_30 : decode cX3_off 30 = .ok (.ifCond .ne 7, 3) := by decide +kernel
theorem dX3_off_33 : decode cX3_off 33 = .ok (.ldc2_w 118, 3) := by decide +kernel
theorem dX3_off_36 : decode cX3_off 36 = .ok (.lreturn, 1) := by decide +kernel
theorem dX3_off_37 : decode cX3_off 37 = .ok (.aload_n 0, 1) := by decide +kernel
theorem dX3_off_38 : decode cX3_off 38 = .ok (.iload_n 1, 1) := by decide +kernel
theorem dX3_off_39 : decode cX3_off 39 = .ok (.invokevirtual 126, 3) := by decide +kernel
theorem dX3_off_42 : decode cX3_off 42 = .ok (.aload_n 0, 1) := by decide +kernel
theorem dX3_off_43 : decode cX3_off 43 = .ok (.getfield 80, 3) := by decide +kernel
theorem dX3_off_46 : decode cX3_off 46 = .ok (.iload_n 2, 1) := by decide +kernel
theorem dX3_off_47 : decode cX3_off 47 = .ok (.invokestatic 120, 3) := by decide +kernel
theorem dX3_off_50 : decode cX3_off 50 = .ok (.lreturn, 1) := by decide +kernel
set_option maxRecDepth 20000 in
theorem ggX3_worstOf_X3_offOf : GoodIn wsX3_worstOf wsX3_offOf := goodIn_r _ [6, 1, 7, 8, 9, 10, 11, 12, 5, 13, 17, 18, 19, 20, 21, 22, 23, 24, 25, 26, 27, 28, 29, 30, 31, 32] (by decide +kernel) (by decide +kernel)
set_option maxRecDepth 20000 in
theorem gX3_worstOf_X3_offOf : GoodIn wsX3_worstOf (wsV RX3 126 RX3 yX3_offOf wsX3_offOf) := goodIn_app (goodIn_of _ (by decide +kernel)) ggX3_worstOf_X3_offOf
set_option maxRecDepth 20000 in
theorem ggX3_worstOf_X3_plain : GoodIn wsX3_worstOf wsX3_plain := goodIn_r _ [16] (by decide +kernel) (by decide +kernel)
set_option maxRecDepth 20000 in
theorem gX3_worstOf_X3_plain : GoodIn wsX3_worstOf (va_wsS RX3 102 yX3_plain wsX3_plain) := goodIn_app (goodIn_of _ (by decide +kernel)) ggX3_worstOf_X3_plain
theorem dX3_worstOf_0 : decode cX3_worstOf 0 = .ok (.bipush (-6), 2) := by decide +kernel
theorem dX3_worstOf_2 : decode cX3_worstOf 2 = .ok (.istore_n 2, 1) := by decide +kernel
theorem dX3_worstOf_3 : decode cX3_worstOf 3 = .ok (.iconst 0, 1) := by decide +kernel
theorem dX3_worstOf_4 : decode cX3_worstOf 4 = .ok (.istore_n 3, 1) := by decide +kernel
theorem dX3_worstOf_5 : decode cX3_worstOf 5 = .ok (.iload_n 3, 1) := by decide +kernel
theorem dX3_worstOf_6 : decode cX3_worstOf 6 = .ok (.aload_n 0, 1) := by decide +kernel
theorem dX3_worstOf_7 : decode cX3_worstOf 7 = .ok (.getfield 7, 3) := by decide +kernel
theorem dX3_worstOf_10 : decode cX3_worstOf 10 = .ok (.bipush 20, 2) := by decide +kernel
theorem dX3_worstOf_12 : decode cX3_worstOf 12 = .ok (.iaload, 1) := by decide +kernel
theorem dX3_worstOf_13 : decode cX3_worstOf 13 = .ok (.if_icmp .ge 44, 3) := by decide +kernel
theorem dX3_worstOf_16 : decode cX3_worstOf 16 = .ok (.iload_n 1, 1) := by decide +kernel
theorem dX3_worstOf_17 : decode cX3_worstOf 17 = .ok (.iload_n 3, 1) := by decide +kernel
theorem dX3_worstOf_18 : decode cX3_worstOf 18 = .ok (.ishr, 1) := by decide +kernel
theorem dX3_worstOf_19 : decode cX3_worstOf 19 = .ok (.iconst 1, 1) := by decide +kernel
theorem dX3_worstOf_20 : decode cX3_worstOf 20 = .ok (.iand, 1) := by decide +kernel
theorem dX3_worstOf_21 : decode cX3_worstOf 21 = .ok (.iconst 1, 1) := by decide +kernel
theorem dX3_worstOf_22 : decode cX3_worstOf 22 = .ok (.if_icmp .ne 29, 3) := by decide +kernel
theorem dX3_worstOf_25 : decode cX3_worstOf 25 = .ok (.iload_n 2, 1) := by decide +kernel
theorem dX3_worstOf_26 : decode cX3_worstOf 26 = .ok (.ifCond .lt 23, 3) := by decide +kernel
theorem dX3_worstOf_29 : decode cX3_worstOf 29 = .ok (.aload_n 0, 1) := by decide +kernel
theorem dX3_worstOf_30 : decode cX3_worstOf 30 = .ok (.iload_n 3, 1) := by decide +kernel
theorem dX3_worstOf_31 : decode cX3_worstOf 31 = .ok (.invokevirtual 126, 3) := by decide +kernel
theorem dX3_worstOf_34 : decode cX3_worstOf 34 = .ok (.invokestatic 102, 3) := by decide +kernel
theorem dX3_worstOf_37 : decode cX3_worstOf 37 = .ok (.aload_n 0, 1) := by decide +kernel
theorem dX3_worstOf_38 : decode cX3_worstOf 38 = .ok (.iload_n 2, 1) := by decide +kernel
theorem dX3_worstOf_39 : decode cX3_worstOf 39 = .ok (.invokevirtual 126, 3) := by decide +kernel
theorem dX3_worstOf_42 : decode cX3_worstOf 42 = .ok (.invokestatic 102, 3) := by decide +kernel
theorem dX3_worstOf_45 : decode cX3_worstOf 45 = .ok (.lcmp, 1) := by decide +kernel
theorem dX3_worstOf_46 : decode cX3_worstOf 46 = .ok (.ifCond .le 5, 3) := by decide +kernel
theorem dX3_worstOf_49 : decode cX3_worstOf 49 = .ok (.iload_n 3, 1) := by decide +kernel
theorem dX3_worstOf_50 : decode cX3_worstOf 50 = .ok (.istore_n 2, 1) := by decide +kernel
theorem dX3_worstOf_51 : decode cX3_worstOf 51 = .ok (.iinc 3 1, 3) := by decide +kernel
theorem dX3_worstOf_54 : decode cX3_worstOf 54 = .ok (.goto (-49), 3) := by decide +kernel
theorem dX3_worstOf_57 : decode cX3_worstOf 57 = .ok (.iload_n 2, 1) := by decide +kernel
theorem dX3_worstOf_58 : decode cX3_worstOf 58 = .ok (.ireturn, 1) := by decide +kernel
set_option maxRecDepth 20000 in
theorem ggX3_worst_X3_in : GoodIn wsX3_worst wsX3_in := goodIn_r _ [6] (by decide +kernel) (by decide +kernel)
set_option maxRecDepth 20000 in
theorem gX3_worst_X3_in : GoodIn wsX3_worst (va_wsS RX3 20 yX3_in wsX3_in) := goodIn_app (goodIn_of _ (by decide +kernel)) ggX3_worst_X3_in
set_option maxRecDepth 20000 in
theorem ggX3_worst_X3_layTaken : GoodIn wsX3_worst wsX3_layTaken := goodIn_r _ [10, 1, 11, 12, 13, 5, 14, 2, 15, 16, 17, 18, 19, 20, 21, 22, 23, 24, 25, 26, 27, 28, 29, 30, 31, 32, 33, 34, 35, 36, 37, 38, 39, 40, 41, 42, 43, 44, 56, 57, 58, 59, 60, 61, 62, 63, 64, 65, 66, 67, 68, 69, 70, 71] (by decide +kernel) (by decide +kernel)
set_option maxRecDepth 20000 in
theorem gX3_worst_X3_layTaken : GoodIn wsX3_worst (wsV RX3 114 RX3 yX3_layTaken wsX3_layTaken) := goodIn_app (goodIn_of _ (by decide +kernel)) ggX3_worst_X3_layTaken
set_option maxRecDepth 20000 in
theorem ggX3_worst_X3_worstOf : GoodIn wsX3_worst wsX3_worstOf := goodIn_r _ [48, 1, 49, 50, 51, 5, 52, 2, 39, 40, 41, 32, 33, 34, 53, 54, 55, 56, 57, 58, 59, 60, 61, 62, 63, 64, 65, 66, 67, 68, 69, 70, 71] (by decide +kernel) (by decide +kernel)
set_option maxRecDepth 20000 in
theorem gX3_worst_X3_worstOf : GoodIn wsX3_worst (wsV RX3 130 RX3 yX3_worstOf wsX3_worstOf) := goodIn_app (goodIn_of _ (by decide +kernel)) ggX3_worst_X3_worstOf
set_option maxRecDepth 20000 in
theorem ggX3_worst_X3_offOf : GoodIn wsX3_worst wsX3_offOf := goodIn_r _ [52, 1, 2, 39, 40, 41, 32, 33, 5, 34, 56, 57, 58, 59, 60, 61, 62, 63, 64, 65, 66, 67, 68, 69, 70, 71] (by decide +kernel) (by decide +kernel)
set_option maxRecDepth 20000 in
theorem gX3_worst_X3_offOf : GoodIn wsX3_worst (wsV RX3 126 RX3 yX3_offOf wsX3_offOf) := goodIn_app (goodIn_of _ (by decide +kernel)) ggX3_worst_X3_offOf
set_option maxRecDepth 20000 in
theorem ggX3_worst_X3_plain : GoodIn wsX3_worst wsX3_plain := goodIn_r _ [55] (by decide +kernel) (by decide +kernel)
set_option maxRecDepth 20000 in
theorem gX3_worst_X3_plain : GoodIn wsX3_worst (va_wsS RX3 102 yX3_plain wsX3_plain) := goodIn_app (goodIn_of _ (by decide +kernel)) ggX3_worst_X3_plain
theorem dX3_worst_0 : decode cX3_worst 0 = .ok (.iload_n 1, 1) := by decide +kernel
theorem dX3_worst_1 : decode cX3_worst 1 = .ok (.i2l, 1) := by decide +kernel
theorem dX3_worst_2 : decode cX3_worst 2 = .ok (.lconst 0, 1) := by decide +kernel
theorem dX3_worst_3 : decode cX3_worst 3 = .ok (.lconst 1, 1) := by decide +kernel
theorem dX3_worst_4 : decode cX3_worst 4 = .ok (.invokestatic 20, 3) := by decide +kernel
theorem dX3_worst_7 : decode cX3_worst 7 = .ok (.ifCond .ne 6, 3) := by decide +kernel
theorem dX3_worst_10 : decode cX3_worst 10 = .ok (.bipush (-2), 2) := by decide +kernel
theorem dX3_worst_12 : decode cX3_worst 12 = .ok (.ireturn, 1) := by decide +kernel
theorem dX3_worst_13 : decode cX3_worst 13 = .ok (.aload_n 0, 1) := by decide +kernel
theorem dX3_worst_14 : decode cX3_worst 14 = .ok (.invokevirtual 114, 3) := by decide +kernel
theorem dX3_worst_17 : decode cX3_worst 17 = .ok (.ifCond .ne 6, 3) := by decide +kernel
theorem dX3_worst_20 : decode cX3_worst 20 = .ok (.bipush (-5), 2) := by decide +kernel
theorem dX3_worst_22 : decode cX3_worst 22 = .ok (.ireturn, 1) := by decide +kernel
theorem dX3_worst_23 : decode cX3_worst 23 = .ok (.aload_n 0, 1) := by decide +kernel
theorem dX3_worst_24 : decode cX3_worst 24 = .ok (.aload_n 0, 1) := by decide +kernel
theorem dX3_worst_25 : decode cX3_worst 25 = .ok (.getfield 7, 3) := by decide +kernel
theorem dX3_worst_28 : decode cX3_worst 28 = .ok (.bipush 21, 2) := by decide +kernel
theorem dX3_worst_30 : decode cX3_worst 30 = .ok (.iaload, 1) := by decide +kernel
theorem dX3_worst_31 : decode cX3_worst 31 = .ok (.invokevirtual 130, 3) := by decide +kernel
theorem dX3_worst_34 : decode cX3_worst 34 = .ok (.istore_n 2, 1) := by decide +kernel
theorem dX3_worst_35 : decode cX3_worst 35 = .ok (.iload_n 1, 1) := by decide +kernel
theorem dX3_worst_36 : decode cX3_worst 36 = .ok (.ifCond .ne 7, 3) := by decide +kernel
theorem dX3_worst_39 : decode cX3_worst 39 = .ok (.iload_n 2, 1) := by decide +kernel
theorem dX3_worst_40 : decode cX3_worst 40 = .ok (.goto 17, 3) := by decide +kernel
theorem dX3_worst_43 : decode cX3_worst 43 = .ok (.aload_n 0, 1) := by decide +kernel
theorem dX3_worst_44 : decode cX3_worst 44 = .ok (.iload_n 2, 1) := by decide +kernel
theorem dX3_worst_45 : decode cX3_worst 45 = .ok (.invokevirtual 126, 3) := by decide +kernel
theorem dX3_worst_48 : decode cX3_worst 48 = .ok (.invokestatic 102, 3) := by decide +kernel
theorem dX3_worst_51 : decode cX3_worst 51 = .ok (.aload_n 0, 1) := by decide +kernel
theorem dX3_worst_52 : decode cX3_worst 52 = .ok (.getfield 80, 3) := by decide +kernel
theorem dX3_worst_55 : decode cX3_worst 55 = .ok (.ldiv, 1) := by decide +kernel
theorem dX3_worst_56 : decode cX3_worst 56 = .ok (.l2i, 1) := by decide +kernel
theorem dX3_worst_57 : decode cX3_worst 57 = .ok (.ireturn, 1) := by decide +kernel
theorem dX3_eighthOf_0 : decode cX3_eighthOf 0 = .ok (.lload_n 2, 1) := by decide +kernel
theorem dX3_eighthOf_1 : decode cX3_eighthOf 1 = .ok (.lconst 0, 1) := by decide +kernel
theorem dX3_eighthOf_2 : decode cX3_eighthOf 2 = .ok (.lcmp, 1) := by decide +kernel
theorem dX3_eighthOf_3 : decode cX3_eighthOf 3 = .ok (.ifCond .lt 11, 3) := by decide +kernel
theorem dX3_eighthOf_6 : decode cX3_eighthOf 6 = .ok (.lload_n 0, 1) := by decide +kernel
theorem dX3_eighthOf_7 : decode cX3_eighthOf 7 = .ok (.lload_n 2, 1) := by decide +kernel
theorem dX3_eighthOf_8 : decode cX3_eighthOf 8 = .ok (.lcmp, 1) := by decide +kernel
theorem dX3_eighthOf_9 : decode cX3_eighthOf 9 = .ok (.ifCond .le 5, 3) := by decide +kernel
theorem dX3_eighthOf_12 : decode cX3_eighthOf 12 = .ok (.iconst 0, 1) := by decide +kernel
theorem dX3_eighthOf_13 : decode cX3_eighthOf 13 = .ok (.ireturn, 1) := by decide +kernel
theorem dX3_eighthOf_14 : decode cX3_eighthOf 14 = .ok (.lload_n 0, 1) := by decide +kernel
theorem dX3_eighthOf_15 : decode cX3_eighthOf 15 = .ok (.lconst 0, 1) := by decide +kernel
theorem dX3_eighthOf_16 : decode cX3_eighthOf 16 = .ok (.lcmp, 1) := by decide +kernel
theorem dX3_eighthOf_17 : decode cX3_eighthOf 17 = .ok (.ifCond .le 11, 3) := by decide +kernel
theorem dX3_eighthOf_20 : decode cX3_eighthOf 20 = .ok (.lload_n 2, 1) := by decide +kernel
theorem dX3_eighthOf_21 : decode cX3_eighthOf 21 = .ok (.lload_n 0, 1) := by decide +kernel
theorem dX3_eighthOf_22 : decode cX3_eighthOf 22 = .ok (.lcmp, 1) := by decide +kernel
theorem dX3_eighthOf_23 : decode cX3_eighthOf 23 = .ok (.ifCond .lt 5, 3) := by decide +kernel
theorem dX3_eighthOf_26 : decode cX3_eighthOf 26 = .ok (.iconst 1, 1) := by decide +kernel
theorem dX3_eighthOf_27 : decode cX3_eighthOf 27 = .ok (.ireturn, 1) := by decide +kernel
theorem dX3_eighthOf_28 : decode cX3_eighthOf 28 = .ok (.lload_n 0, 1) := by decide +kernel
theorem dX3_eighthOf_29 : decode cX3_eighthOf 29 = .ok (.lconst 0, 1) := by decide +kernel
theorem dX3_eighthOf_30 : decode cX3_eighthOf 30 = .ok (.lcmp, 1) := by decide +kernel
theorem dX3_eighthOf_31 : decode cX3_eighthOf 31 = .ok (.ifCond .gt 12, 3) := by decide +kernel
theorem dX3_eighthOf_34 : decode cX3_eighthOf 34 = .ok (.lload_n 2, 1) := by decide +kernel
theorem dX3_eighthOf_35 : decode cX3_eighthOf 35 = .ok (.lload_n 0, 1) := by decide +kernel
theorem dX3_eighthOf_36 : decode cX3_eighthOf 36 = .ok (.lneg, 1) := by decide +kernel
theorem dX3_eighthOf_37 : decode cX3_eighthOf 37 = .ok (.lcmp, 1) := by decide +kernel
theorem dX3_eighthOf_38 : decode cX3_eighthOf 38 = .ok (.ifCond .le 5, 3) := by decide +kernel
theorem dX3_eighthOf_41 : decode cX3_eighthOf 41 = .ok (.iconst 2, 1) := by decide +kernel
theorem dX3_eighthOf_42 : decode cX3_eighthOf 42 = .ok (.ireturn, 1) := by decide +kernel
theorem dX3_eighthOf_43 : decode cX3_eighthOf 43 = .ok (.lload_n 2, 1) := by decide +kernel
theorem dX3_eighthOf_44 : decode cX3_eighthOf 44 = .ok (.lconst 0, 1) := by decide +kernel
end
section
theorem dX3_eighthOf_45 : decode cX3_eighthOf 45 = .ok (.lcmp, 1) := by decide +kernel
theorem dX3_eighthOf_46 : decode cX3_eighthOf 46 = .ok (.ifCond .le 12, 3) := by decide +kernel
theorem dX3_eighthOf_49 : decode cX3_eighthOf 49 = .ok (.lload_n 0, 1) := by decide +kernel
theorem dX3_eighthOf_50 : decode cX3_eighthOf 50 = .ok (.lneg, 1) := by decide +kernel
theorem dX3_eighthOf_51 : decode cX3_eighthOf 51 = .ok (.lload_n 2, 1) := by decide +kernel
theorem dX3_eighthOf_52 : decode cX3_eighthOf 52 = .ok (.lcmp, 1) := by decide +kernel
theorem dX3_eighthOf_53 : decode cX3_eighthOf 53 = .ok (.ifCond .lt 5, 3) := by decide +kernel
theorem dX3_eighthOf_56 : decode cX3_eighthOf 56 = .ok (.iconst 3, 1) := by decide +kernel
theorem dX3_eighthOf_57 : decode cX3_eighthOf 57 = .ok (.ireturn, 1) := by decide +kernel
theorem dX3_eighthOf_58 : decode cX3_eighthOf 58 = .ok (.lload_n 2, 1) := by decide +kernel
theorem dX3_eighthOf_59 : decode cX3_eighthOf 59 = .ok (.lconst 0, 1) := by decide +kernel
theorem dX3_eighthOf_60 : decode cX3_eighthOf 60 = .ok (.lcmp, 1) := by decide +kernel
theorem dX3_eighthOf_61 : decode cX3_eighthOf 61 = .ok (.ifCond .gt 13, 3) := by decide +kernel
theorem dX3_eighthOf_64 : decode cX3_eighthOf 64 = .ok (.lload_n 0, 1) := by decide +kernel
theorem dX3_eighthOf_65 : decode cX3_eighthOf 65 = .ok (.lneg, 1) := by decide +kernel
theorem dX3_eighthOf_66 : decode cX3_eighthOf 66 = .ok (.lload_n 2, 1) := by decide +kernel
theorem dX3_eighthOf_67 : decode cX3_eighthOf 67 = .ok (.lneg, 1) := by decide +kernel
theorem dX3_eighthOf_68 : decode cX3_eighthOf 68 = .ok (.lcmp, 1) := by decide +kernel
theorem dX3_eighthOf_69 : decode cX3_eighthOf 69 = .ok (.ifCond .le 5, 3) := by decide +kernel
theorem dX3_eighthOf_72 : decode cX3_eighthOf 72 = .ok (.iconst 4, 1) := by decide +kernel
theorem dX3_eighthOf_73 : decode cX3_eighthOf 73 = .ok (.ireturn, 1) := by decide +kernel
theorem dX3_eighthOf_74 : decode cX3_eighthOf 74 = .ok (.lload_n 0, 1) := by decide +kernel
theorem dX3_eighthOf_75 : decode cX3_eighthOf 75 = .ok (.lconst 0, 1) := by decide +kernel
theorem dX3_eighthOf_76 : decode cX3_eighthOf 76 = .ok (.lcmp, 1) := by decide +kernel
theorem dX3_eighthOf_77 : decode cX3_eighthOf 77 = .ok (.ifCond .ge 13, 3) := by decide +kernel
theorem dX3_eighthOf_80 : decode cX3_eighthOf 80 = .ok (.lload_n 2, 1) := by decide +kernel
theorem dX3_eighthOf_81 : decode cX3_eighthOf 81 = .ok (.lneg, 1) := by decide +kernel
theorem dX3_eighthOf_82 : decode cX3_eighthOf 82 = .ok (.lload_n 0, 1) := by decide +kernel
theorem dX3_eighthOf_83 : decode cX3_eighthOf 83 = .ok (.lneg, 1) := by decide +kernel
theorem dX3_eighthOf_84 : decode cX3_eighthOf 84 = .ok (.lcmp, 1) := by decide +kernel
theorem dX3_eighthOf_85 : decode cX3_eighthOf 85 = .ok (.ifCond .lt 5, 3) := by decide +kernel
theorem dX3_eighthOf_88 : decode cX3_eighthOf 88 = .ok (.iconst 5, 1) := by decide +kernel
theorem dX3_eighthOf_89 : decode cX3_eighthOf 89 = .ok (.ireturn, 1) := by decide +kernel
theorem dX3_eighthOf_90 : decode cX3_eighthOf 90 = .ok (.lload_n 0, 1) := by decide +kernel
theorem dX3_eighthOf_91 : decode cX3_eighthOf 91 = .ok (.lconst 0, 1) := by decide +kernel
theorem dX3_eighthOf_92 : decode cX3_eighthOf 92 = .ok (.lcmp, 1) := by decide +kernel
theorem dX3_eighthOf_93 : decode cX3_eighthOf 93 = .ok (.ifCond .lt 13, 3) := by decide +kernel
theorem dX3_eighthOf_96 : decode cX3_eighthOf 96 = .ok (.lload_n 2, 1) := by decide +kernel
theorem dX3_eighthOf_97 : decode cX3_eighthOf 97 = .ok (.lneg, 1) := by decide +kernel
theorem dX3_eighthOf_98 : decode cX3_eighthOf 98 = .ok (.lload_n 0, 1) := by decide +kernel
theorem dX3_eighthOf_99 : decode cX3_eighthOf 99 = .ok (.lcmp, 1) := by decide +kernel
theorem dX3_eighthOf_100 : decode cX3_eighthOf 100 = .ok (.ifCond .le 6, 3) := by decide +kernel
theorem dX3_eighthOf_103 : decode cX3_eighthOf 103 = .ok (.bipush 6, 2) := by decide +kernel
theorem dX3_eighthOf_105 : decode cX3_eighthOf 105 = .ok (.ireturn, 1) := by decide +kernel
theorem dX3_eighthOf_106 : decode cX3_eighthOf 106 = .ok (.lload_n 2, 1) := by decide +kernel
theorem dX3_eighthOf_107 : decode cX3_eighthOf 107 = .ok (.lconst 0, 1) := by decide +kernel
theorem dX3_eighthOf_108 : decode cX3_eighthOf 108 = .ok (.lcmp, 1) := by decide +kernel
theorem dX3_eighthOf_109 : decode cX3_eighthOf 109 = .ok (.ifCond .ge 15, 3) := by decide +kernel
theorem dX3_eighthOf_112 : decode cX3_eighthOf 112 = .ok (.lload_n 0, 1) := by decide +kernel
theorem dX3_eighthOf_113 : decode cX3_eighthOf 113 = .ok (.lload_n 2, 1) := by decide +kernel
theorem dX3_eighthOf_114 : decode cX3_eighthOf 114 = .ok (.lneg, 1) := by decide +kernel
theorem dX3_eighthOf_115 : decode cX3_eighthOf 115 = .ok (.lcmp, 1) := by decide +kernel
theorem dX3_eighthOf_116 : decode cX3_eighthOf 116 = .ok (.ifCond .lt 8, 3) := by decide +kernel
theorem dX3_eighthOf_119 : decode cX3_eighthOf 119 = .ok (.bipush 7, 2) := by decide +kernel
theorem dX3_eighthOf_121 : decode cX3_eighthOf 121 = .ok (.goto 5, 3) := by decide +kernel
theorem dX3_eighthOf_124 : decode cX3_eighthOf 124 = .ok (.bipush (-6), 2) := by decide +kernel
theorem dX3_eighthOf_126 : decode cX3_eighthOf 126 = .ok (.ireturn, 1) := by decide +kernel
set_option maxRecDepth 20000 in
theorem ggX3_eighthAt_X3_eighthOf : GoodIn wsX3_eighthAt wsX3_eighthOf := goodIn_r _ [8] (by decide +kernel) (by decide +kernel)
set_option maxRecDepth 20000 in
theorem gX3_eighthAt_X3_eighthOf : GoodIn wsX3_eighthAt (va_wsS RX3 133 yX3_eighthOf wsX3_eighthOf) := goodIn_app (goodIn_of _ (by decide +kernel)) ggX3_eighthAt_X3_eighthOf
theorem dX3_eighthAt_0 : decode cX3_eighthAt 0 = .ok (.ldc2_w 110, 3) := by decide +kernel
theorem dX3_eighthAt_3 : decode cX3_eighthAt 3 = .ok (.aload_n 0, 1) := by decide +kernel
theorem dX3_eighthAt_4 : decode cX3_eighthAt 4 = .ok (.getfield 80, 3) := by decide +kernel
theorem dX3_eighthAt_7 : decode cX3_eighthAt 7 = .ok (.lmul, 1) := by decide +kernel
theorem dX3_eighthAt_8 : decode cX3_eighthAt 8 = .ok (.iload_n 1, 1) := by decide +kernel
theorem dX3_eighthAt_9 : decode cX3_eighthAt 9 = .ok (.i2l, 1) := by decide +kernel
theorem dX3_eighthAt_10 : decode cX3_eighthAt 10 = .ok (.lmul, 1) := by decide +kernel
theorem dX3_eighthAt_11 : decode cX3_eighthAt 11 = .ok (.aload_n 0, 1) := by decide +kernel
theorem dX3_eighthAt_12 : decode cX3_eighthAt 12 = .ok (.getfield 83, 3) := by decide +kernel
theorem dX3_eighthAt_15 : decode cX3_eighthAt 15 = .ok (.lsub, 1) := by decide +kernel
theorem dX3_eighthAt_16 : decode cX3_eighthAt 16 = .ok (.ldc2_w 110, 3) := by decide +kernel
theorem dX3_eighthAt_19 : decode cX3_eighthAt 19 = .ok (.aload_n 0, 1) := by decide +kernel
theorem dX3_eighthAt_20 : decode cX3_eighthAt 20 = .ok (.getfield 80, 3) := by decide +kernel
theorem dX3_eighthAt_23 : decode cX3_eighthAt 23 = .ok (.lmul, 1) := by decide +kernel
theorem dX3_eighthAt_24 : decode cX3_eighthAt 24 = .ok (.iload_n 2, 1) := by decide +kernel
theorem dX3_eighthAt_25 : decode cX3_eighthAt 25 = .ok (.i2l, 1) := by decide +kernel
theorem dX3_eighthAt_26 : decode cX3_eighthAt 26 = .ok (.lmul, 1) := by decide +kernel
theorem dX3_eighthAt_27 : decode cX3_eighthAt 27 = .ok (.aload_n 0, 1) := by decide +kernel
theorem dX3_eighthAt_28 : decode cX3_eighthAt 28 = .ok (.getfield 86, 3) := by decide +kernel
theorem dX3_eighthAt_31 : decode cX3_eighthAt 31 = .ok (.lsub, 1) := by decide +kernel
theorem dX3_eighthAt_32 : decode cX3_eighthAt 32 = .ok (.invokestatic 133, 3) := by decide +kernel
theorem dX3_eighthAt_35 : decode cX3_eighthAt 35 = .ok (.ireturn, 1) := by decide +kernel
theorem dX3_bit_0 : decode cX3_bit 0 = .ok (.iload_n 0, 1) := by decide +kernel
theorem dX3_bit_1 : decode cX3_bit 1 = .ok (.ifCond .ge 7, 3) := by decide +kernel
theorem dX3_bit_4 : decode cX3_bit 4 = .ok (.iconst 0, 1) := by decide +kernel
theorem dX3_bit_5 : decode cX3_bit 5 = .ok (.goto 6, 3) := by decide +kernel
theorem dX3_bit_8 : decode cX3_bit 8 = .ok (.iconst 1, 1) := by decide +kernel
theorem dX3_bit_9 : decode cX3_bit 9 = .ok (.iload_n 0, 1) := by decide +kernel
theorem dX3_bit_10 : decode cX3_bit 10 = .ok (.ishl, 1) := by decide +kernel
theorem dX3_bit_11 : decode cX3_bit 11 = .ok (.ireturn, 1) := by decide +kernel
set_option maxRecDepth 20000 in
theorem ggX3_coverOf_X3_eighthAt : GoodIn wsX3_coverOf wsX3_eighthAt := goodIn_r _ [6, 7, 8, 9, 10, 11, 12, 5, 13, 17, 18, 19, 20, 21, 22, 23, 24, 25, 26, 27, 28, 29, 30, 31, 32] (by decide +kernel) (by decide +kernel)
set_option maxRecDepth 20000 in
theorem gX3_coverOf_X3_eighthAt : GoodIn wsX3_coverOf (wsV RX3 137 RX3 yX3_eighthAt wsX3_eighthAt) := goodIn_app (goodIn_of _ (by decide +kernel)) ggX3_coverOf_X3_eighthAt
set_option maxRecDepth 20000 in
theorem ggX3_coverOf_X3_bit : GoodIn wsX3_coverOf wsX3_bit := goodIn_r _ [16] (by decide +kernel) (by decide +kernel)
set_option maxRecDepth 20000 in
theorem gX3_coverOf_X3_bit : GoodIn wsX3_coverOf (va_wsS RX3 140 yX3_bit wsX3_bit) := goodIn_app (goodIn_of _ (by decide +kernel)) ggX3_coverOf_X3_bit
theorem dX3_coverOf_0 : decode cX3_coverOf 0 = .ok (.iconst 0, 1) := by decide +kernel
theorem dX3_coverOf_1 : decode cX3_coverOf 1 = .ok (.istore_n 2, 1) := by decide +kernel
theorem dX3_coverOf_2 : decode cX3_coverOf 2 = .ok (.iconst 0, 1) := by decide +kernel
theorem dX3_coverOf_3 : decode cX3_coverOf 3 = .ok (.istore_n 3, 1) := by decide +kernel
theorem dX3_coverOf_4 : decode cX3_coverOf 4 = .ok (.iload_n 3, 1) := by decide +kernel
theorem dX3_coverOf_5 : decode cX3_coverOf 5 = .ok (.aload_n 0, 1) := by decide +kernel
theorem dX3_coverOf_6 : decode cX3_coverOf 6 = .ok (.getfield 7, 3) := by decide +kernel
theorem dX3_coverOf_9 : decode cX3_coverOf 9 = .ok (.bipush 20, 2) := by decide +kernel
theorem dX3_coverOf_11 : decode cX3_coverOf 11 = .ok (.iaload, 1) := by decide +kernel
theorem dX3_coverOf_12 : decode cX3_coverOf 12 = .ok (.if_icmp .ge 49, 3) := by decide +kernel
theorem dX3_coverOf_15 : decode cX3_coverOf 15 = .ok (.iload_n 2, 1) := by decide +kernel
theorem dX3_coverOf_16 : decode cX3_coverOf 16 = .ok (.iload_n 1, 1) := by decide +kernel
theorem dX3_coverOf_17 : decode cX3_coverOf 17 = .ok (.iload_n 3, 1) := by decide +kernel
theorem dX3_coverOf_18 : decode cX3_coverOf 18 = .ok (.ishr, 1) := by decide +kernel
theorem dX3_coverOf_19 : decode cX3_coverOf 19 = .ok (.iconst 1, 1) := by decide +kernel
theorem dX3_coverOf_20 : decode cX3_coverOf 20 = .ok (.iand, 1) := by decide +kernel
theorem dX3_coverOf_21 : decode cX3_coverOf 21 = .ok (.iconst 1, 1) := by decide +kernel
theorem dX3_coverOf_22 : decode cX3_coverOf 22 = .ok (.if_icmp .ne 30, 3) := by decide +kernel
theorem dX3_coverOf_25 : decode cX3_coverOf 25 = .ok (.aload_n 0, 1) := by decide +kernel
theorem dX3_coverOf_26 : decode cX3_coverOf 26 = .ok (.aload_n 0, 1) := by decide +kernel
theorem dX3_coverOf_27 : decode cX3_coverOf 27 = .ok (.getfield 7, 3) := by decide +kernel
theorem dX3_coverOf_30 : decode cX3_coverOf 30 = .ok (.iconst 0, 1) := by decide +kernel
theorem dX3_coverOf_31 : decode cX3_coverOf 31 = .ok (.iload_n 3, 1) := by decide +kernel
theorem dX3_coverOf_32 : decode cX3_coverOf 32 = .ok (.iadd, 1) := by decide +kernel
theorem dX3_coverOf_33 : decode cX3_coverOf 33 = .ok (.iaload, 1) := by decide +kernel
theorem dX3_coverOf_34 : decode cX3_coverOf 34 = .ok (.aload_n 0, 1) := by decide +kernel
theorem dX3_coverOf_35 : decode cX3_coverOf 35 = .ok (.getfield 7, 3) := by decide +kernel
theorem dX3_coverOf_38 : decode cX3_coverOf 38 = .ok (.bipush 10, 2) := by decide +kernel
theorem dX3_coverOf_40 : decode cX3_coverOf 40 = .ok (.iload_n 3, 1) := by decide +kernel
theorem dX3_coverOf_41 : decode cX3_coverOf 41 = .ok (.iadd, 1) := by decide +kernel
theorem dX3_coverOf_42 : decode cX3_coverOf 42 = .ok (.iaload, 1) := by decide +kernel
theorem dX3_coverOf_43 : decode cX3_coverOf 43 = .ok (.invokevirtual 137, 3) := by decide +kernel
theorem dX3_coverOf_46 : decode cX3_coverOf 46 = .ok (.invokestatic 140, 3) := by decide +kernel
theorem dX3_coverOf_49 : decode cX3_coverOf 49 = .ok (.goto 4, 3) := by decide +kernel
theorem dX3_coverOf_52 : decode cX3_coverOf 52 = .ok (.iconst 0, 1) := by decide +kernel
theorem dX3_coverOf_53 : decode cX3_coverOf 53 = .ok (.ior, 1) := by decide +kernel
theorem dX3_coverOf_54 : decode cX3_coverOf 54 = .ok (.istore_n 2, 1) := by decide +kernel
theorem dX3_coverOf_55 : decode cX3_coverOf 55 = .ok (.iinc 3 1, 3) := by decide +kernel
theorem dX3_coverOf_58 : decode cX3_coverOf 58 = .ok (.goto (-54), 3) := by decide +kernel
theorem dX3_coverOf_61 : decode cX3_coverOf 61 = .ok (.iload_n 2, 1) := by decide +kernel
theorem dX3_coverOf_62 : decode cX3_coverOf 62 = .ok (.ireturn, 1) := by decide +kernel
set_option maxRecDepth 20000 in
theorem ggX3_need_X3_in : GoodIn wsX3_need wsX3_in := goodIn_r _ [6] (by decide +kernel) (by decide +kernel)
set_option maxRecDepth 20000 in
theorem gX3_need_X3_in : GoodIn wsX3_need (va_wsS RX3 20 yX3_in wsX3_in) := goodIn_app (goodIn_of _ (by decide +kernel)) ggX3_need_X3_in
theorem dX3_need_0 : decode cX3_need 0 = .ok (.iload_n 1, 1) := by decide +kernel
theorem dX3_need_1 : decode cX3_need 1 = .ok (.i2l, 1) := by decide +kernel
theorem dX3_need_2 : decode cX3_need 2 = .ok (.lconst 1, 1) := by decide +kernel
theorem dX3_need_3 : decode cX3_need 3 = .ok (.ldc2_w 143, 3) := by decide +kernel
theorem dX3_need_6 : decode cX3_need 6 = .ok (.invokestatic 20, 3) := by decide +kernel
theorem dX3_need_9 : decode cX3_need 9 = .ok (.ifCond .ne 6, 3) := by decide +kernel
theorem dX3_need_12 : decode cX3_need 12 = .ok (.bipush (-2), 2) := by decide +kernel
theorem dX3_need_14 : decode cX3_need 14 = .ok (.ireturn, 1) := by decide +kernel
theorem dX3_need_15 : decode cX3_need 15 = .ok (.aload_n 0, 1) := by decide +kernel
theorem dX3_need_16 : decode cX3_need 16 = .ok (.getfield 7, 3) := by decide +kernel
theorem dX3_need_19 : decode cX3_need 19 = .ok (.bipush 22, 2) := by decide +kernel
theorem dX3_need_21 : decode cX3_need 21 = .ok (.iaload, 1) := by decide +kernel
theorem dX3_need_22 : decode cX3_need 22 = .ok (.istore_n 2, 1) := by decide +kernel
theorem dX3_need_23 : decode cX3_need 23 = .ok (.aload_n 0, 1) := by decide +kernel
theorem dX3_need_24 : decode cX3_need 24 = .ok (.getfield 7, 3) := by decide +kernel
theorem dX3_need_27 : decode cX3_need 27 = .ok (.bipush 22, 2) := by decide +kernel
theorem dX3_need_29 : decode cX3_need 29 = .ok (.iload_n 1, 1) := by decide +kernel
theorem dX3_need_30 : decode cX3_need 30 = .ok (.iastore, 1) := by decide +kernel
theorem dX3_need_31 : decode cX3_need 31 = .ok (.iload_n 2, 1) := by decide +kernel
theorem dX3_need_32 : decode cX3_need 32 = .ok (.ireturn, 1) := by decide +kernel
set_option maxRecDepth 20000 in
theorem ggX3_cover_X3_layTaken : GoodIn wsX3_cover wsX3_layTaken := goodIn_r _ [6, 1, 7, 8, 9, 5, 10, 11, 12, 13, 14, 15, 16, 17, 18, 19, 20, 21, 22, 23, 24, 25, 26, 27, 28, 29, 30, 31, 32, 33, 34, 35, 36, 37, 38, 39, 40, 41, 57, 58, 59, 60, 61, 62, 63, 64, 65, 66, 67, 68, 69, 70, 71, 72] (by decide +kernel) (by decide +kernel)
set_option maxRecDepth 20000 in
theorem gX3_cover_X3_layTaken : GoodIn wsX3_cover (wsV RX3 114 RX3 yX3_layTaken wsX3_layTaken) := goodIn_app (goodIn_of _ (by decide +kernel)) ggX3_cover_X3_layTaken
set_option maxRecDepth 20000 in
theorem ggX3_cover_X3_coverOf : GoodIn wsX3_cover wsX3_coverOf := goodIn_r _ [45, 1, 46, 47, 48, 5, 49, 50, 11, 36, 37, 51, 52, 53, 54, 55, 56, 57, 58, 59, 60, 61, 62, 63, 64, 65, 66, 67, 68, 69, 70, 71, 72] (by decide +kernel) (by decide +kernel)
set_option maxRecDepth 20000 in
theorem gX3_cover_X3_coverOf : GoodIn wsX3_cover (wsV RX3 145 RX3 yX3_coverOf wsX3_coverOf) := goodIn_app (goodIn_of _ (by decide +kernel)) ggX3_cover_X3_coverOf
theorem dX3_cover_0 : decode cX3_cover 0 = .ok (.aload_n 0, 1) := by decide +kernel
theorem dX3_cover_1 : decode cX3_cover 1 = .ok (.invokevirtual 114, 3) := by decide +kernel
theorem dX3_cover_4 : decode cX3_cover 4 = .ok (.ifCond .eq 17, 3) := by decide +kernel
theorem dX3_cover_7 : decode cX3_cover 7 = .ok (.aload_n 0, 1) := by decide +kernel
theorem dX3_cover_8 : decode cX3_cover 8 = .ok (.aload_n 0, 1) := by decide +kernel
theorem dX3_cover_9 : decode cX3_cover 9 = .ok (.getfield 7, 3) := by decide +kernel
theorem dX3_cover_12 : decode cX3_cover 12 = .ok (.bipush 21, 2) := by decide +kernel
theorem dX3_cover_14 : decode cX3_cover 14 = .ok (.iaload, 1) := by decide +kernel
theorem dX3_cover_15 : decode cX3_cover 15 = .ok (.invokevirtual 145, 3) := by decide +kernel
theorem dX3_cover_18 : decode cX3_cover 18 = .ok (.goto 5, 3) := by decide +kernel
theorem dX3_cover_21 : decode cX3_cover 21 = .ok (.bipush (-5), 2) := by decide +kernel
theorem dX3_cover_23 : decode cX3_cover 23 = .ok (.ireturn, 1) := by decide +kernel
set_option maxRecDepth 20000 in
theorem ggX3_isPoor_X3_layTaken : GoodIn wsX3_isPoor wsX3_layTaken := goodIn_r _ [6, 1, 7, 8, 9, 5, 10, 11, 12, 13, 14, 15, 16, 17, 18, 19, 20, 21, 22, 23, 24, 25, 26, 27, 28, 29, 30, 31, 32, 33, 34, 35, 36, 37, 38, 39, 40, 41, 60, 61, 62, 63, 64, 65, 66, 67, 68, 69, 70, 71, 72, 73, 74, 75] (by decide +kernel) (by decide +kernel)
set_option maxRecDepth 20000 in
theorem gX3_isPoor_X3_layTaken : GoodIn wsX3_isPoor (wsV RX3 114 RX3 yX3_layTaken wsX3_layTaken) := goodIn_app (goodIn_of _ (by decide +kernel)) ggX3_isPoor_X3_layTaken
set_option maxRecDepth 20000 in
theorem ggX3_isPoor_X3_coverOf : GoodIn wsX3_isPoor wsX3_coverOf := goodIn_r _ [45, 1, 46, 47, 48, 5, 49, 50, 11, 36, 37, 51, 52, 53, 54, 55, 56, 60, 61, 62, 63, 64, 65, 66, 67, 68, 69, 70, 71, 72, 73, 74, 75] (by decide +kernel) (by decide +kernel)
set_option maxRecDepth 20000 in
theorem gX3_isPoor_X3_coverOf : GoodIn wsX3_isPoor (wsV RX3 145 RX3 yX3_coverOf wsX3_coverOf) := goodIn_app (goodIn_of _ (by decide +kernel)) ggX3_isPoor_X3_coverOf
set_option maxRecDepth 20000 in
theorem ggX3_isPoor_X3_size : GoodIn wsX3_isPoor wsX3_size := goodIn_r _ [59] (by decide +kernel) (by decide +kernel)
set_option maxRecDepth 20000 in
theorem gX3_isPoor_X3_size : GoodIn wsX3_isPoor (va_wsS RX3 36 yX3_size wsX3_size) := goodIn_app (goodIn_of _ (by decide +kernel)) ggX3_isPoor_X3_size
theorem dX3_isPoor_0 : decode cX3_isPoor 0 = .ok (.aload_n 0, 1) := by decide +kernel
theorem dX3_isPoor_1 : decode cX3_isPoor 1 = .ok (.invokevirtual 114, 3) := by decide +kernel
theorem dX3_isPoor_4 : decode cX3_isPoor 4 = .ok (.ifCond .eq 27, 3) := by decide +kernel
theorem dX3_isPoor_7 : decode cX3_isPoor 7 = .ok (.aload_n 0, 1) := by decide +kernel
theorem dX3_isPoor_8 : decode cX3_isPoor 8 = .ok (.aload_n 0, 1) := by decide +kernel
theorem dX3_isPoor_9 : decode cX3_isPoor 9 = .ok (.getfield 7, 3) := by decide +kernel
theorem dX3_isPoor_12 : decode cX3_isPoor 12 = .ok (.bipush 21, 2) := by decide +kernel
theorem dX3_isPoor_14 : decode cX3_isPoor 14 = .ok (.iaload, 1) := by decide +kernel
theorem dX3_isPoor_15 : decode cX3_isPoor 15 = .ok (.invokevirtual 145, 3) := by decide +kernel
theorem dX3_isPoor_18 : decode cX3_isPoor 18 = .ok (.invokestatic 36, 3) := by decide +kernel
theorem dX3_isPoor_21 : decode cX3_isPoor 21 = .ok (.aload_n 0, 1) := by decide +kernel
theorem dX3_isPoor_22 : decode cX3_isPoor 22 = .ok (.getfield 7, 3) := by decide +kernel
theorem dX3_isPoor_25 : decode cX3_isPoor 25 = .ok (.bipush 22, 2) := by decide +kernel
theorem dX3_isPoor_27 : decode cX3_isPoor 27 = .ok (.iaload, 1) := by decide +kernel
theorem dX3_isPoor_28 : decode cX3_isPoor 28 = .ok (.if_icmp .ge 7, 3) := by decide +kernel
theorem dX3_isPoor_31 : decode cX3_isPoor 31 = .ok (.iconst 1, 1) := by decide +kernel
theorem dX3_isPoor_32 : decode cX3_isPoor 32 = .ok (.goto 4, 3) := by decide +kernel
theorem dX3_isPoor_35 : decode cX3_isPoor 35 = .ok (.iconst 0, 1) := by decide +kernel
theorem dX3_isPoor_36 : decode cX3_isPoor 36 = .ok (.ireturn, 1) := by decide +kernel
set_option maxRecDepth 20000 in
theorem ggX3_poor_X3_isPoor : GoodIn wsX3_poor wsX3_isPoor := goodIn_r _ [5, 6, 7, 8, 9, 4, 10, 11, 12, 13, 14, 15, 16, 17, 18, 19, 20, 21, 22, 23, 24, 25, 26, 27, 28, 29, 30, 31, 32, 33, 34, 35, 36, 37, 38, 39, 40, 41, 42, 43, 44, 45, 46, 47, 48, 49, 50, 51, 52, 53, 54, 55, 56, 57, 58, 59, 60, 61, 62, 63, 64, 65, 66, 67, 68, 69, 70, 71, 72, 73, 74, 75, 76, 77, 78, 79] (by decide +kernel) (by decide +kernel)
set_option maxRecDepth 20000 in
theorem gX3_poor_X3_isPoor : GoodIn wsX3_poor (wsV RX3 148 RX3 yX3_isPoor wsX3_isPoor) := goodIn_app (goodIn_of _ (by decide +kernel)) ggX3_poor_X3_isPoor
theorem dX3_poor_0 : decode cX3_poor 0 = .ok (.aload_n 0, 1) := by decide +kernel
theorem dX3_poor_1 : decode cX3_poor 1 = .ok (.invokevirtual 148, 3) := by decide +kernel
theorem dX3_poor_4 : decode cX3_poor 4 = .ok (.ifCond .eq 7, 3) := by decide +kernel
theorem dX3_poor_7 : decode cX3_poor 7 = .ok (.iconst 1, 1) := by decide +kernel
theorem dX3_poor_8 : decode cX3_poor 8 = .ok (.goto 4, 3) := by decide +kernel
theorem dX3_poor_11 : decode cX3_poor 11 = .ok (.iconst 0, 1) := by decide +kernel
theorem dX3_poor_12 : decode cX3_poor 12 = .ok (.ireturn, 1) := by decide +kernel
set_option maxRecDepth 20000 in
theorem ggX3_eighth_X3_isSample : GoodIn wsX3_eighth wsX3_isSample := goodIn_r _ [6, 1, 7, 8, 5, 9, 57, 58, 59, 60, 61, 62, 63, 64, 65, 66, 67, 68, 69, 70, 71, 72] (by decide +kernel) (by decide +kernel)
set_option maxRecDepth 20000 in
theorem gX3_eighth_X3_isSample : GoodIn wsX3_eighth (wsV RX3 32 RX3 yX3_isSample wsX3_isSample) := goodIn_app (goodIn_of _ (by decide +kernel)) ggX3_eighth_X3_isSample
set_option maxRecDepth 20000 in
theorem ggX3_eighth_X3_layTaken : GoodIn wsX3_eighth wsX3_layTaken := goodIn_r _ [13, 1, 14, 15, 16, 5, 17, 18, 19, 20, 21, 22, 23, 24, 25, 26, 27, 28, 29, 30, 31, 32, 33, 34, 35, 36, 37, 38, 39, 40, 41, 42, 43, 44, 45, 46, 47, 48, 57, 58, 59, 60, 61, 62, 63, 64, 65, 66, 67, 68, 69, 70, 71, 72] (by decide +kernel) (by decide +kernel)
set_option maxRecDepth 20000 in
theorem gX3_eighth_X3_layTaken : GoodIn wsX3_eighth (wsV RX3 114 RX3 yX3_layTaken wsX3_layTaken) := goodIn_app (goodIn_of _ (by decide +kernel)) ggX3_eighth_X3_layTaken
set_option maxRecDepth 20000 in
theorem ggX3_eighth_X3_eighthAt : GoodIn wsX3_eighth wsX3_eighthAt := goodIn_r _ [52, 53, 18, 43, 44, 54, 55, 5, 56, 57, 58, 59, 60, 61, 62, 63, 64, 65, 66, 67, 68, 69, 70, 71, 72] (by decide +kernel) (by decide +kernel)
set_option maxRecDepth 20000 in
theorem gX3_eighth_X3_eighthAt : GoodIn wsX3_eighth (wsV RX3 137 RX3 yX3_eighthAt wsX3_eighthAt) := goodIn_app (goodIn_of _ (by decide +kernel)) ggX3_eighth_X3_eighthAt
theorem dX3_eighth_0 : decode cX3_eighth 0 = .ok (.aload_n 0, 1) := by decide +kernel
theorem dX3_eighth_1 : decode cX3_eighth 1 = .ok (.iload_n 1, 1) := by decide +kernel
theorem dX3_eighth_2 : decode cX3_eighth 2 = .ok (.invokevirtual 32, 3) := by decide +kernel
theorem dX3_eighth_5 : decode cX3_eighth 5 = .ok (.ifCond .ne 5, 3) := by decide +kernel
theorem dX3_eighth_8 : decode cX3_eighth 8 = .ok (.iconst (-1), 1) := by decide +kernel
theorem dX3_eighth_9 : decode cX3_eighth 9 = .ok (.ireturn, 1) := by decide +kernel
theorem dX3_eighth_10 : decode cX3_eighth 10 = .ok (.aload_n 0, 1) := by decide +kernel
theorem dX3_eighth_11 : decode cX3_eighth 11 = .ok (.invokevirtual 114, 3) := by decide +kernel
theorem dX3_eighth_14 : decode cX3_eighth 14 = .ok (.ifCond .eq 27, 3) := by decide +kernel
theorem dX3_eighth_17 : decode cX3_eighth 17 = .ok (.aload_n 0, 1) := by decide +kernel
theorem dX3_eighth_18 : decode cX3_eighth 18 = .ok (.aload_n 0, 1) := by decide +kernel
theorem dX3_eighth_19 : decode cX3_eighth 19 = .ok (.getfield 7, 3) := by decide +kernel
theorem dX3_eighth_22 : decode cX3_eighth 22 = .ok (.iconst 0, 1) := by decide +kernel
theorem dX3_eighth_23 : decode cX3_eighth 23 = .ok (.iload_n 1, 1) := by decide +kernel
theorem dX3_eighth_24 : decode cX3_eighth 24 = .ok (.iadd, 1) := by decide +kernel
theorem dX3_eighth_25 : decode cX3_eighth 25 = .ok (.iaload, 1) := by decide +kernel
theorem dX3_eighth_26 : decode cX3_eighth 26 = .ok (.aload_n 0, 1) := by decide +kernel
theorem dX3_eighth_27 : decode cX3_eighth 27 = .ok (.getfield 7, 3) := by decide +kernel
theorem dX3_eighth_30 : decode cX3_eighth 30 = .ok (.bipush 10, 2) := by decide +kernel
theorem dX3_eighth_32 : decode cX3_eighth 32 = .ok (.iload_n 1, 1) := by decide +kernel
theorem dX3_eighth_33 : decode cX3_eighth 33 = .ok (.iadd, 1) := by decide +kernel
theorem dX3_eighth_34 : decode cX3_eighth 34 = .ok (.iaload, 1) := by decide +kernel
theorem dX3_eighth_35 : decode cX3_eighth 35 = .ok (.invokevirtual 137, 3) := by decide +kernel
theorem dX3_eighth_38 : decode cX3_eighth 38 = .ok (.goto 5, 3) := by decide +kernel
theorem dX3_eighth_41 : decode cX3_eighth 41 = .ok (.bipush (-5), 2) := by decide +kernel
theorem dX3_eighth_43 : decode cX3_eighth 43 = .ok (.ireturn, 1) := by decide +kernel
set_option maxRecDepth 20000 in
theorem ggX3_points_X3_isHere : GoodIn wsX3_points wsX3_isHere := goodIn_r _ [4, 5, 6, 7, 8, 3, 9] (by decide +kernel) (by decide +kernel)
set_option maxRecDepth 20000 in
theorem gX3_points_X3_isHere : GoodIn wsX3_points (va_wsS RX3 28 yX3_isHere wsX3_isHere) := goodIn_app (goodIn_of _ (by decide +kernel)) ggX3_points_X3_isHere
set_option maxRecDepth 20000 in
theorem ggX3_points_X3_isPoor : GoodIn wsX3_points wsX3_isPoor := goodIn_r _ [13, 14, 15, 16, 17, 3, 18, 19, 20, 21, 22, 23, 24, 25, 26, 27, 28, 29, 30, 31, 32, 33, 34, 35, 36, 37, 38, 39, 40, 41, 42, 43, 44, 45, 46, 47, 48, 49, 50, 51, 52, 53, 54, 55, 56, 57, 58, 59, 60, 61, 62, 63, 64, 65, 66, 67, 68, 69, 70, 71, 72, 73, 74, 75, 76, 77, 78, 79, 80, 81, 82, 83, 84, 85, 86, 87] (by decide +kernel) (by decide +kernel)
set_option maxRecDepth 20000 in
theorem gX3_points_X3_isPoor : GoodIn wsX3_points (wsV RX3 148 RX3 yX3_isPoor wsX3_isPoor) := goodIn_app (goodIn_of _ (by decide +kernel)) ggX3_points_X3_isPoor
set_option maxRecDepth 20000 in
theorem ggX3_points_X3_eighthAt : GoodIn wsX3_points wsX3_eighthAt := goodIn_r _ [61, 62, 23, 48, 49, 63, 64, 3, 65, 72, 73, 74, 75, 76, 77, 78, 79, 80, 81, 82, 83, 84, 85, 86, 87] (by decide +kernel) (by decide +kernel)
set_option maxRecDepth 20000 in
theorem gX3_points_X3_eighthAt : GoodIn wsX3_points (wsV RX3 137 RX3 yX3_eighthAt wsX3_eighthAt) := goodIn_app (goodIn_of _ (by decide +kernel)) ggX3_points_X3_eighthAt
theorem dX3_points_0 : decode cX3_points 0 = .ok (.iload_n 1, 1) := by decide +kernel
theorem dX3_points_1 : decode cX3_points 1 = .ok (.iload_n 2, 1) := by decide +kernel
theorem dX3_points_2 : decode cX3_points 2 = .ok (.invokestatic 28, 3) := by decide +kernel
theorem dX3_points_5 : decode cX3_points 5 = .ok (.ifCond .ne 6, 3) := by decide +kernel
theorem dX3_points_8 : decode cX3_points 8 = .ok (.bipush (-2), 2) := by decide +kernel
theorem dX3_points_10 : decode cX3_points 10 = .ok (.ireturn, 1) := by decide +kernel
theorem dX3_points_11 : decode cX3_points 11 = .ok (.aload_n 0, 1) := by decide +kernel
theorem dX3_points_12 : decode cX3_points 12 = .ok (.invokevirtual 148, 3) := by decide +kernel
theorem dX3_points_15 : decode cX3_points 15 = .ok (.ifCond .eq 8, 3) := by decide +kernel
theorem dX3_points_18 : decode cX3_points 18 = .ok (.bipush (-5), 2) := by decide +kernel
theorem dX3_points_20 : decode cX3_points 20 = .ok (.goto 9, 3) := by decide +kernel
theorem dX3_points_23 : decode cX3_points 23 = .ok (.aload_n 0, 1) := by decide +kernel
theorem dX3_points_24 : decode cX3_points 24 = .ok (.iload_n 1, 1) := by decide +kernel
theorem dX3_points_25 : decode cX3_points 25 = .ok (.iload_n 2, 1) := by decide +kernel
theorem dX3_points_26 : decode cX3_points 26 = .ok (.invokevirtual 137, 3) := by decide +kernel
theorem dX3_points_29 : decode cX3_points 29 = .ok (.ireturn, 1) := by decide +kernel
set_option maxRecDepth 20000 in
theorem ggX3_bitWith_X3_sumSet : GoodIn wsX3_bitWith wsX3_sumSet := goodIn_r _ [7, 8, 9, 10, 11, 12, 13, 14, 15, 16, 1, 17, 18, 19, 6, 20, 21, 22, 23, 52, 53, 54, 55, 56, 57, 58, 59, 60, 61, 62, 63, 64, 65, 66, 67] (by decide +kernel) (by decide +kernel)
set_option maxRecDepth 20000 in
theorem gX3_bitWith_X3_sumSet : GoodIn wsX3_bitWith (wsV RX3 92 RX3 yX3_sumSet wsX3_sumSet) := goodIn_app (goodIn_of _ (by decide +kernel)) ggX3_bitWith_X3_sumSet
set_option maxRecDepth 20000 in
theorem ggX3_bitWith_X3_sumOne : GoodIn wsX3_bitWith wsX3_sumOne := goodIn_r _ [20, 8, 9, 10, 11, 12, 13, 14, 15, 16, 21, 22, 6, 23, 52, 53, 54, 55, 56, 57, 58, 59, 60, 61, 62, 63, 64, 65, 66, 67] (by decide +kernel) (by decide +kernel)
set_option maxRecDepth 20000 in
theorem gX3_bitWith_X3_sumOne : GoodIn wsX3_bitWith (wsV RX3 72 RX3 yX3_sumOne wsX3_sumOne) := goodIn_app (goodIn_of _ (by decide +kernel)) ggX3_bitWith_X3_sumOne
set_option maxRecDepth 20000 in
theorem ggX3_bitWith_X3_layRound : GoodIn wsX3_bitWith wsX3_layRound := goodIn_r _ [27, 11, 12, 9, 13, 10, 8, 2, 15, 16, 14, 28, 29, 30, 31, 32, 6, 33, 52, 53, 54, 55, 56, 57, 58, 59, 60, 61, 62, 63, 64, 65, 66, 67] (by decide +kernel) (by decide +kernel)
set_option maxRecDepth 20000 in
theorem gX3_bitWith_X3_layRound : GoodIn wsX3_bitWith (wsV RX3 96 RX3 yX3_layRound wsX3_layRound) := goodIn_app (goodIn_of _ (by decide +kernel)) ggX3_bitWith_X3_layRound
set_option maxRecDepth 20000 in
theorem ggX3_bitWith_X3_eighthAt : GoodIn wsX3_bitWith wsX3_eighthAt := goodIn_r _ [37, 38, 2, 28, 29, 39, 40, 6, 41, 52, 53, 54, 55, 56, 57, 58, 59, 60, 61, 62, 63, 64, 65, 66, 67] (by decide +kernel) (by decide +kernel)
set_option maxRecDepth 20000 in
theorem gX3_bitWith_X3_eighthAt : GoodIn wsX3_bitWith (wsV RX3 137 RX3 yX3_eighthAt wsX3_eighthAt) := goodIn_app (goodIn_of _ (by decide +kernel)) ggX3_bitWith_X3_eighthAt
set_option maxRecDepth 20000 in
theorem ggX3_bitWith_X3_bit : GoodIn wsX3_bitWith wsX3_bit := goodIn_r _ [44] (by decide +kernel) (by decide +kernel)
set_option maxRecDepth 20000 in
theorem gX3_bitWith_X3_bit : GoodIn wsX3_bitWith (va_wsS RX3 140 yX3_bit wsX3_bit) := goodIn_app (goodIn_of _ (by decide +kernel)) ggX3_bitWith_X3_bit
set_option maxRecDepth 20000 in
theorem ggX3_bitWith_X3_coverOf : GoodIn wsX3_bitWith wsX3_coverOf := goodIn_r _ [48, 1, 34, 35, 36, 6, 37, 38, 2, 28, 29, 39, 40, 41, 42, 43, 44, 52, 53, 54, 55, 56, 57, 58, 59, 60, 61, 62, 63, 64, 65, 66, 67] (by decide +kernel) (by decide +kernel)
set_option maxRecDepth 20000 in
theorem gX3_bitWith_X3_coverOf : GoodIn wsX3_bitWith (wsV RX3 145 RX3 yX3_coverOf wsX3_coverOf) := goodIn_app (goodIn_of _ (by decide +kernel)) ggX3_bitWith_X3_coverOf
set_option maxRecDepth 20000 in
theorem ggX3_bitWith_X3_size : GoodIn wsX3_bitWith wsX3_size := goodIn_r _ [51] (by decide +kernel) (by decide +kernel)
set_option maxRecDepth 20000 in
theorem gX3_bitWith_X3_size : GoodIn wsX3_bitWith (va_wsS RX3 36 yX3_size wsX3_size) := goodIn_app (goodIn_of _ (by decide +kernel)) ggX3_bitWith_X3_size
theorem dX3_bitWith_0 : decode cX3_bitWith 0 = .ok (.aload_n 0, 1) := by decide +kernel
theorem dX3_bitWith_1 : decode cX3_bitWith 1 = .ok (.aload_n 0, 1) := by decide +kernel
theorem dX3_bitWith_2 : decode cX3_bitWith 2 = .ok (.getfield 7, 3) := by decide +kernel
theorem dX3_bitWith_5 : decode cX3_bitWith 5 = .ok (.bipush 21, 2) := by decide +kernel
theorem dX3_bitWith_7 : decode cX3_bitWith 7 = .ok (.iaload, 1) := by decide +kernel
theorem dX3_bitWith_8 : decode cX3_bitWith 8 = .ok (.invokevirtual 92, 3) := by decide +kernel
theorem dX3_bitWith_11 : decode cX3_bitWith 11 = .ok (.aload_n 0, 1) := by decide +kernel
theorem dX3_bitWith_12 : decode cX3_bitWith 12 = .ok (.iload_n 1, 1) := by decide +kernel
theorem dX3_bitWith_13 : decode cX3_bitWith 13 = .ok (.iload_n 2, 1) := by decide +kernel
theorem dX3_bitWith_14 : decode cX3_bitWith 14 = .ok (.invokevirtual 72, 3) := by decide +kernel
theorem dX3_bitWith_17 : decode cX3_bitWith 17 = .ok (.aload_n 0, 1) := by decide +kernel
theorem dX3_bitWith_18 : decode cX3_bitWith 18 = .ok (.invokevirtual 96, 3) := by decide +kernel
theorem dX3_bitWith_21 : decode cX3_bitWith 21 = .ok (.aload_n 0, 1) := by decide +kernel
theorem dX3_bitWith_22 : decode cX3_bitWith 22 = .ok (.getfield 80, 3) := by decide +kernel
theorem dX3_bitWith_25 : decode cX3_bitWith 25 = .ok (.lconst 0, 1) := by decide +kernel
theorem dX3_bitWith_26 : decode cX3_bitWith 26 = .ok (.lcmp, 1) := by decide +kernel
theorem dX3_bitWith_27 : decode cX3_bitWith 27 = .ok (.ifCond .ne 5, 3) := by decide +kernel
theorem dX3_bitWith_30 : decode cX3_bitWith 30 = .ok (.iconst 0, 1) := by decide +kernel
theorem dX3_bitWith_31 : decode cX3_bitWith 31 = .ok (.ireturn, 1) := by decide +kernel
theorem dX3_bitWith_32 : decode cX3_bitWith 32 = .ok (.aload_n 0, 1) := by decide +kernel
theorem dX3_bitWith_33 : decode cX3_bitWith 33 = .ok (.iload_n 1, 1) := by decide +kernel
theorem dX3_bitWith_34 : decode cX3_bitWith 34 = .ok (.iload_n 2, 1) := by decide +kernel
theorem dX3_bitWith_35 : decode cX3_bitWith 35 = .ok (.invokevirtual 137, 3) := by decide +kernel
theorem dX3_bitWith_38 : decode cX3_bitWith 38 = .ok (.invokestatic 140, 3) := by decide +kernel
theorem dX3_bitWith_41 : decode cX3_bitWith 41 = .ok (.istore_n 3, 1) := by decide +kernel
theorem dX3_bitWith_42 : decode cX3_bitWith 42 = .ok (.aload_n 0, 1) := by decide +kernel
theorem dX3_bitWith_43 : decode cX3_bitWith 43 = .ok (.aload_n 0, 1) := by decide +kernel
theorem dX3_bitWith_44 : decode cX3_bitWith 44 = .ok (.getfield 7, 3) := by decide +kernel
theorem dX3_bitWith_47 : decode cX3_bitWith 47 = .ok (.bipush 21, 2) := by decide +kernel
theorem dX3_bitWith_49 : decode cX3_bitWith 49 = .ok (.iaload, 1) := by decide +kernel
theorem dX3_bitWith_50 : decode cX3_bitWith 50 = .ok (.invokevirtual 145, 3) := by decide +kernel
theorem dX3_bitWith_53 : decode cX3_bitWith 53 = .ok (.iload_n 3, 1) := by decide +kernel
theorem dX3_bitWith_54 : decode cX3_bitWith 54 = .ok (.ior, 1) := by decide +kernel
theorem dX3_bitWith_55 : decode cX3_bitWith 55 = .ok (.invokestatic 36, 3) := by decide +kernel
theorem dX3_bitWith_58 : decode cX3_bitWith 58 = .ok (.aload_n 0, 1) := by decide +kernel
theorem dX3_bitWith_59 : decode cX3_bitWith 59 = .ok (.getfield 7, 3) := by decide +kernel
theorem dX3_bitWith_62 : decode cX3_bitWith 62 = .ok (.bipush 22, 2) := by decide +kernel
theorem dX3_bitWith_64 : decode cX3_bitWith 64 = .ok (.iaload, 1) := by decide +kernel
theorem dX3_bitWith_65 : decode cX3_bitWith 65 = .ok (.if_icmp .ge 7, 3) := by decide +kernel
theorem dX3_bitWith_68 : decode cX3_bitWith 68 = .ok (.iconst 0, 1) := by decide +kernel
theorem dX3_bitWith_69 : decode cX3_bitWith 69 = .ok (.goto 4, 3) := by decide +kernel
theorem dX3_bitWith_72 : decode cX3_bitWith 72 = .ok (.iload_n 3, 1) := by decide +kernel
theorem dX3_bitWith_73 : decode cX3_bitWith 73 = .ok (.ireturn, 1) := by decide +kernel
set_option maxRecDepth 20000 in
theorem ggX3_helps_X3_bitWith : GoodIn wsX3_helps wsX3_bitWith := goodIn_r _ [6, 1, 7, 8, 9, 10, 5, 11, 12, 13, 14, 15, 16, 17, 18, 19, 20, 21, 22, 23, 24, 25, 26, 27, 28, 29, 30, 31, 32, 33, 34, 35, 36, 37, 38, 39, 40, 41, 42, 43, 44, 45, 46, 47, 48, 49, 50, 51, 52, 53, 54, 55, 56, 57, 58, 59, 60, 61, 62, 63, 64, 65, 66, 67, 68, 69, 70, 71] (by decide +kernel) (by decide +kernel)
set_option maxRecDepth 20000 in
theorem gX3_helps_X3_bitWith : GoodIn wsX3_helps (wsV RX3 151 RX3 yX3_bitWith wsX3_bitWith) := goodIn_app (goodIn_of _ (by decide +kernel)) ggX3_helps_X3_bitWith
theorem dX3_helps_0 : decode cX3_helps 0 = .ok (.aload_n 0, 1) := by decide +kernel
theorem dX3_helps_1 : decode cX3_helps 1 = .ok (.getfield 7, 3) := by decide +kernel
theorem dX3_helps_4 : decode cX3_helps 4 = .ok (.bipush 20, 2) := by decide +kernel
theorem dX3_helps_6 : decode cX3_helps 6 = .ok (.iaload, 1) := by decide +kernel
theorem dX3_helps_7 : decode cX3_helps 7 = .ok (.bipush 10, 2) := by decide +kernel
theorem dX3_helps_9 : decode cX3_helps 9 = .ok (.if_icmp .ne 5, 3) := by decide +kernel
theorem dX3_helps_12 : decode cX3_helps 12 = .ok (.iconst 0, 1) := by decide +kernel
theorem dX3_helps_13 : decode cX3_helps 13 = .ok (.ireturn, 1) := by decide +kernel
theorem dX3_helps_14 : decode cX3_helps 14 = .ok (.iconst 0, 1) := by decide +kernel
theorem dX3_helps_15 : decode cX3_helps 15 = .ok (.istore_n 1, 1) := by decide +kernel
theorem dX3_helps_16 : decode cX3_helps 16 = .ok (.bipush (-40), 2) := by decide +kernel
theorem dX3_helps_18 : decode cX3_helps 18 = .ok (.istore_n 2, 1) := by decide +kernel
theorem dX3_helps_19 : decode cX3_helps 19 = .ok (.iload_n 2, 1) := by decide +kernel
theorem dX3_helps_20 : decode cX3_helps 20 = .ok (.bipush 40, 2) := by decide +kernel
theorem dX3_helps_22 : decode cX3_helps 22 = .ok (.if_icmp .gt 33, 3) := by decide +kernel
theorem dX3_helps_25 : decode cX3_helps 25 = .ok (.bipush (-40), 2) := by decide +kernel
theorem dX3_helps_27 : decode cX3_helps 27 = .ok (.istore_n 3, 1) := by decide +kernel
theorem dX3_helps_28 : decode cX3_helps 28 = .ok (.iload_n 3, 1) := by decide +kernel
theorem dX3_helps_29 : decode cX3_helps 29 = .ok (.bipush 40, 2) := by decide +kernel
theorem dX3_helps_31 : decode cX3_helps 31 = .ok (.if_icmp .gt 18, 3) := by decide +kernel
theorem dX3_helps_34 : decode cX3_helps 34 = .ok (.iload_n 1, 1) := by decide +kernel
theorem dX3_helps_35 : decode cX3_helps 35 = .ok (.aload_n 0, 1) := by decide +kernel
theorem dX3_helps_36 : decode cX3_helps 36 = .ok (.iload_n 2, 1) := by decide +kernel
theorem dX3_helps_37 : decode cX3_helps 37 = .ok (.iload_n 3, 1) := by decide +kernel
theorem dX3_helps_38 : decode cX3_helps 38 = .ok (.invokevirtual 151, 3) := by decide +kernel
theorem dX3_helps_41 : decode cX3_helps 41 = .ok (.ior, 1) := by decide +kernel
theorem dX3_helps_42 : decode cX3_helps 42 = .ok (.istore_n 1, 1) := by decide +kernel
theorem dX3_helps_43 : decode cX3_helps 43 = .ok (.iinc 3 1, 3) := by decide +kernel
theorem dX3_helps_46 : decode cX3_helps 46 = .ok (.goto (-18), 3) := by decide +kernel
theorem dX3_helps_49 : decode cX3_helps 49 = .ok (.iinc 2 1, 3) := by decide +kernel
theorem dX3_helps_52 : decode cX3_helps 52 = .ok (.goto (-33), 3) := by decide +kernel
theorem dX3_helps_55 : decode cX3_helps 55 = .ok (.iload_n 1, 1) := by decide +kernel
theorem dX3_helps_56 : decode cX3_helps 56 = .ok (.ireturn, 1) := by decide +kernel
set_option maxRecDepth 20000 in
theorem ggX3_trim_X3_in : GoodIn wsX3_trim wsX3_in := goodIn_r _ [7] (by decide +kernel) (by decide +kernel)
set_option maxRecDepth 20000 in
theorem gX3_trim_X3_in : GoodIn wsX3_trim (va_wsS RX3 20 yX3_in wsX3_in) := goodIn_app (goodIn_of _ (by decide +kernel)) ggX3_trim_X3_in
set_option maxRecDepth 20000 in
theorem ggX3_trim_X3_layTaken : GoodIn wsX3_trim wsX3_layTaken := goodIn_r _ [11, 2, 12, 13, 14, 6, 15, 3, 16, 17, 18, 19, 20, 21, 22, 23, 24, 25, 26, 27, 28, 29, 30, 31, 32, 33, 34, 35, 36, 37, 38, 39, 40, 41, 42, 43, 44, 45, 60, 61, 62, 63, 64, 65, 66, 67, 68, 69, 70, 71, 72, 73, 74, 75] (by decide +kernel) (by decide +kernel)
set_option maxRecDepth 20000 in
theorem gX3_trim_X3_layTaken : GoodIn wsX3_trim (wsV RX3 114 RX3 yX3_layTaken wsX3_layTaken) := goodIn_app (goodIn_of _ (by decide +kernel)) ggX3_trim_X3_layTaken
set_option maxRecDepth 20000 in
theorem ggX3_trim_X3_worstOf : GoodIn wsX3_trim wsX3_worstOf := goodIn_r _ [49, 2, 50, 51, 52, 6, 53, 3, 40, 41, 42, 33, 34, 35, 54, 55, 56, 60, 61, 62, 63, 64, 65, 66, 67, 68, 69, 70, 71, 72, 73, 74, 75] (by decide +kernel) (by decide +kernel)
set_option maxRecDepth 20000 in
theorem gX3_trim_X3_worstOf : GoodIn wsX3_trim (wsV RX3 130 RX3 yX3_worstOf wsX3_worstOf) := goodIn_app (goodIn_of _ (by decide +kernel)) ggX3_trim_X3_worstOf
set_option maxRecDepth 20000 in
theorem ggX3_trim_X3_size : GoodIn wsX3_trim wsX3_size := goodIn_r _ [59] (by decide +kernel) (by decide +kernel)
set_option maxRecDepth 20000 in
theorem gX3_trim_X3_size : GoodIn wsX3_trim (va_wsS RX3 36 yX3_size wsX3_size) := goodIn_app (goodIn_of _ (by decide +kernel)) ggX3_trim_X3_size
set_option maxRecDepth 20000 in
theorem ggX3_trim_X3_offOf : GoodIn wsX3_trim wsX3_offOf := goodIn_r _ [53, 2, 3, 40, 41, 42, 33, 34, 6, 35, 60, 61, 62, 63, 64, 65, 66, 67, 68, 69, 70, 71, 72, 73, 74, 75] (by decide +kernel) (by decide +kernel)
set_option maxRecDepth 20000 in
theorem gX3_trim_X3_offOf : GoodIn wsX3_trim (wsV RX3 126 RX3 yX3_offOf wsX3_offOf) := goodIn_app (goodIn_of _ (by decide +kernel)) ggX3_trim_X3_offOf
set_option maxRecDepth 20000 in
theorem ggX3_trim_X3_plain : GoodIn wsX3_trim wsX3_plain := goodIn_r _ [56] (by decide +kernel) (by decide +kernel)
set_option maxRecDepth 20000 in
theorem gX3_trim_X3_plain : GoodIn wsX3_trim (va_wsS RX3 102 yX3_plain wsX3_plain) := goodIn_app (goodIn_of _ (by decide +kernel)) ggX3_trim_X3_plain
theorem dX3_trim_0 : decode cX3_trim 0 = .ok (.iload_n 1, 1) := by decide +kernel
theorem dX3_trim_1 : decode cX3_trim 1 = .ok (.i2l, 1) := by decide +kernel
theorem dX3_trim_2 : decode cX3_trim 2 = .ok (.lconst 0, 1) := by decide +kernel
theorem dX3_trim_3 : decode cX3_trim 3 = .ok (.ldc2_w 154, 3) := by decide +kernel
theorem dX3_trim_6 : decode cX3_trim 6 = .ok (.invokestatic 20, 3) := by decide +kernel
theorem dX3_trim_9 : decode cX3_trim 9 = .ok (.ifCond .ne 6, 3) := by decide +kernel
theorem dX3_trim_12 : decode cX3_trim 12 = .ok (.bipush (-2), 2) := by decide +kernel
theorem dX3_trim_14 : decode cX3_trim 14 = .ok (.ireturn, 1) := by decide +kernel
theorem dX3_trim_15 : decode cX3_trim 15 = .ok (.aload_n 0, 1) := by decide +kernel
theorem dX3_trim_16 : decode cX3_trim 16 = .ok (.invokevirtual 114, 3) := by decide +kernel
theorem dX3_trim_19 : decode cX3_trim 19 = .ok (.ifCond .ne 6, 3) := by decide +kernel
theorem dX3_trim_22 : decode cX3_trim 22 = .ok (.bipush (-5), 2) := by decide +kernel
theorem dX3_trim_24 : decode cX3_trim 24 = .ok (.ireturn, 1) := by decide +kernel
theorem dX3_trim_25 : decode cX3_trim 25 = .ok (.iconst 0, 1) := by decide +kernel
theorem dX3_trim_26 : decode cX3_trim 26 = .ok (.istore_n 2, 1) := by decide +kernel
theorem dX3_trim_27 : decode cX3_trim 27 = .ok (.aload_n 0, 1) := by decide +kernel
theorem dX3_trim_28 : decode cX3_trim 28 = .ok (.aload_n 0, 1) := by decide +kernel
theorem dX3_trim_29 : decode cX3_trim 29 = .ok (.getfield 7, 3) := by decide +kernel
theorem dX3_trim_32 : decode cX3_trim 32 = .ok (.bipush 21, 2) := by decide +kernel
theorem dX3_trim_34 : decode cX3_trim 34 = .ok (.iaload, 1) := by decide +kernel
theorem dX3_trim_35 : decode cX3_trim 35 = .ok (.invokevirtual 130, 3) := by decide +kernel
theorem dX3_trim_38 : decode cX3_trim 38 = .ok (.istore_n 3, 1) := by decide +kernel
theorem dX3_trim_39 : decode cX3_trim 39 = .ok (.iload_n 3, 1) := by decide +kernel
theorem dX3_trim_40 : decode cX3_trim 40 = .ok (.ifCond .lt 81, 3) := by decide +kernel
theorem dX3_trim_43 : decode cX3_trim 43 = .ok (.aload_n 0, 1) := by decide +kernel
theorem dX3_trim_44 : decode cX3_trim 44 = .ok (.getfield 7, 3) := by decide +kernel
theorem dX3_trim_47 : decode cX3_trim 47 = .ok (.bipush 21, 2) := by decide +kernel
theorem dX3_trim_49 : decode cX3_trim 49 = .ok (.iaload, 1) := by decide +kernel
theorem dX3_trim_50 : decode cX3_trim 50 = .ok (.invokestatic 36, 3) := by decide +kernel
theorem dX3_trim_53 : decode cX3_trim 53 = .ok (.iconst 4, 1) := by decide +kernel
theorem dX3_trim_54 : decode cX3_trim 54 = .ok (.if_icmp .le 67, 3) := by decide +kernel
theorem dX3_trim_57 : decode cX3_trim 57 = .ok (.aload_n 0, 1) := by decide +kernel
theorem dX3_trim_58 : decode cX3_trim 58 = .ok (.iload_n 3, 1) := by decide +kernel
theorem dX3_trim_59 : decode cX3_trim 59 = .ok (.invokevirtual 126, 3) := by decide +kernel
theorem dX3_trim_62 : decode cX3_trim 62 = .ok (.invokestatic 102, 3) := by decide +kernel
theorem dX3_trim_65 : decode cX3_trim 65 = .ok (.iload_n 1, 1) := by decide +kernel
theorem dX3_trim_66 : decode cX3_trim 66 = .ok (.i2l, 1) := by decide +kernel
theorem dX3_trim_67 : decode cX3_trim 67 = .ok (.aload_n 0, 1) := by decide +kernel
theorem dX3_trim_68 : decode cX3_trim 68 = .ok (.getfield 80, 3) := by decide +kernel
theorem dX3_trim_71 : decode cX3_trim 71 = .ok (.lmul, 1) := by decide +kernel
theorem dX3_trim_72 : decode cX3_trim 72 = .ok (.lcmp, 1) := by decide +kernel
theorem dX3_trim_73 : decode cX3_trim 73 = .ok (.ifCond .le 48, 3) := by decide +kernel
theorem dX3_trim_76 : decode cX3_trim 76 = .ok (.aload_n 0, 1) := by decide +kernel
theorem dX3_trim_77 : decode cX3_trim 77 = .ok (.getfield 7, 3) := by decide +kernel
theorem dX3_trim_80 : decode cX3_trim 80 = .ok (.bipush 21, 2) := by decide +kernel
theorem dX3_trim_82 : decode cX3_trim 82 = .ok (.dup2, 1) := by decide +kernel
theorem dX3_trim_83 : decode cX3_trim 83 = .ok (.iaload, 1) := by decide +kernel
theorem dX3_trim_84 : decode cX3_trim 84 = .ok (.iconst 1, 1) := by decide +kernel
theorem dX3_trim_85 : decode cX3_trim 85 = .ok (.iload_n 3, 1) := by decide +kernel
theorem dX3_trim_86 : decode cX3_trim 86 = .ok (.ishl, 1) := by decide +kernel
theorem dX3_trim_87 : decode cX3_trim 87 = .ok (.iconst (-1), 1) := by decide +kernel
theorem dX3_trim_88 : decode cX3_trim 88 = .ok (.ixor, 1) := by decide +kernel
theorem dX3_trim_89 : decode cX3_trim 89 = .ok (.iand, 1) := by decide +kernel
theorem dX3_trim_90 : decode cX3_trim 90 = .ok (.iastore, 1) := by decide +kernel
theorem dX3_trim_91 : decode cX3_trim 91 = .ok (.iinc 2 1, 3) := by decide +kernel
theorem dX3_trim_94 : decode cX3_trim 94 = .ok (.aload_n 0, 1) := by decide +kernel
theorem dX3_trim_95 : decode cX3_trim 95 = .ok (.invokevirtual 114, 3) := by decide +kernel
theorem dX3_trim_98 : decode cX3_trim 98 = .ok (.ifCond .eq 17, 3) := by decide +kernel
theorem dX3_trim_101 : decode cX3_trim 101 = .ok (.aload_n 0, 1) := by decide +kernel
theorem dX3_trim_102 : decode cX3_trim 102 = .ok (.aload_n 0, 1) := by decide +kernel
theorem dX3_trim_103 : decode cX3_trim 103 = .ok (.getfield 7, 3) := by decide +kernel
theorem dX3_trim_106 : decode cX3_trim 106 = .ok (.bipush 21, 2) := by decide +kernel
theorem dX3_trim_108 : decode cX3_trim 108 = .ok (.iaload, 1) := by decide +kernel
theorem dX3_trim_109 : decode cX3_trim 109 = .ok (.invokevirtual 130, 3) := by decide +kernel
theorem dX3_trim_112 : decode cX3_trim 112 = .ok (.goto 5, 3) := by decide +kernel
theorem dX3_trim_115 : decode cX3_trim 115 = .ok (.bipush (-6), 2) := by decide +kernel
theorem dX3_trim_117 : decode cX3_trim 117 = .ok (.istore_n 3, 1) := by decide +kernel
theorem dX3_trim_118 : decode cX3_trim 118 = .ok (.goto (-79), 3) := by decide +kernel
theorem dX3_trim_121 : decode cX3_trim 121 = .ok (.iload_n 2, 1) := by decide +kernel
theorem dX3_trim_122 : decode cX3_trim 122 = .ok (.ireturn, 1) := by decide +kernel
set_option maxRecDepth 20000 in
theorem ggX3_isWithin_X3_lay : GoodIn wsX3_isWithin wsX3_lay := goodIn_r _ [6, 1, 7, 8, 9, 5, 10, 11, 12, 13, 14, 15, 16, 17, 18, 19, 20, 21, 22, 23, 24, 25, 26, 27, 28, 29, 30, 31, 32, 33, 34, 35, 36, 37, 49, 50, 51, 52, 53, 54, 55, 56, 57, 58, 59, 60, 61, 62, 63, 64] (by decide +kernel) (by decide +kernel)
set_option maxRecDepth 20000 in
theorem gX3_isWithin_X3_lay : GoodIn wsX3_isWithin (wsV RX3 99 RX3 yX3_lay wsX3_lay) := goodIn_app (goodIn_of _ (by decide +kernel)) ggX3_isWithin_X3_lay
set_option maxRecDepth 20000 in
theorem ggX3_isWithin_X3_worstOf : GoodIn wsX3_isWithin wsX3_worstOf := goodIn_r _ [41, 20, 42, 43, 44, 5, 45, 1, 32, 33, 34, 25, 26, 27, 46, 47, 48, 49, 50, 51, 52, 53, 54, 55, 56, 57, 58, 59, 60, 61, 62, 63, 64] (by decide +kernel) (by decide +kernel)
set_option maxRecDepth 20000 in
theorem gX3_isWithin_X3_worstOf : GoodIn wsX3_isWithin (wsV RX3 130 RX3 yX3_worstOf wsX3_worstOf) := goodIn_app (goodIn_of _ (by decide +kernel)) ggX3_isWithin_X3_worstOf
set_option maxRecDepth 20000 in
theorem ggX3_isWithin_X3_offOf : GoodIn wsX3_isWithin wsX3_offOf := goodIn_r _ [45, 20, 1, 32, 33, 34, 25, 26, 5, 27, 49, 50, 51, 52, 53, 54, 55, 56, 57, 58, 59, 60, 61, 62, 63, 64] (by decide +kernel) (by decide +kernel)
set_option maxRecDepth 20000 in
theorem gX3_isWithin_X3_offOf : GoodIn wsX3_isWithin (wsV RX3 126 RX3 yX3_offOf wsX3_offOf) := goodIn_app (goodIn_of _ (by decide +kernel)) ggX3_isWithin_X3_offOf
set_option maxRecDepth 20000 in
theorem ggX3_isWithin_X3_plain : GoodIn wsX3_isWithin wsX3_plain := goodIn_r _ [48] (by decide +kernel) (by decide +kernel)
set_option maxRecDepth 20000 in
theorem gX3_isWithin_X3_plain : GoodIn wsX3_isWithin (va_wsS RX3 102 yX3_plain wsX3_plain) := goodIn_app (goodIn_of _ (by decide +kernel)) ggX3_isWithin_X3_plain
theorem dX3_isWithin_0 : decode cX3_isWithin 0 = .ok (.aload_n 0, 1) := by decide +kernel
theorem dX3_isWithin_1 : decode cX3_isWithin 1 = .ok (.iload_n 1, 1) := by decide +kernel
theorem dX3_isWithin_2 : decode cX3_isWithin 2 = .ok (.invokevirtual 99, 3) := by decide +kernel
theorem dX3_isWithin_5 : decode cX3_isWithin 5 = .ok (.ifCond .eq 30, 3) := by decide +kernel
theorem dX3_isWithin_8 : decode cX3_isWithin 8 = .ok (.aload_n 0, 1) := by decide +kernel
theorem dX3_isWithin_9 : decode cX3_isWithin 9 = .ok (.aload_n 0, 1) := by decide +kernel
theorem dX3_isWithin_10 : decode cX3_isWithin 10 = .ok (.iload_n 1, 1) := by decide +kernel
theorem dX3_isWithin_11 : decode cX3_isWithin 11 = .ok (.invokevirtual 130, 3) := by decide +kernel
theorem dX3_isWithin_14 : decode cX3_isWithin 14 = .ok (.invokevirtual 126, 3) := by decide +kernel
theorem dX3_isWithin_17 : decode cX3_isWithin 17 = .ok (.invokestatic 102, 3) := by decide +kernel
theorem dX3_isWithin_20 : decode cX3_isWithin 20 = .ok (.iload_n 2, 1) := by decide +kernel
theorem dX3_isWithin_21 : decode cX3_isWithin 21 = .ok (.i2l, 1) := by decide +kernel
theorem dX3_isWithin_22 : decode cX3_isWithin 22 = .ok (.aload_n 0, 1) := by decide +kernel
theorem dX3_isWithin_23 : decode cX3_isWithin 23 = .ok (.getfield 80, 3) := by decide +kernel
theorem dX3_isWithin_26 : decode cX3_isWithin 26 = .ok (.lmul, 1) := by decide +kernel
theorem dX3_isWithin_27 : decode cX3_isWithin 27 = .ok (.lcmp, 1) := by decide +kernel
theorem dX3_isWithin_28 : decode cX3_isWithin 28 = .ok (.ifCond .gt 7, 3) := by decide +kernel
theorem dX3_isWithin_31 : decode cX3_isWithin 31 = .ok (.iconst 1, 1) := by decide +kernel
theorem dX3_isWithin_32 : decode cX3_isWithin 32 = .ok (.goto 4, 3) := by decide +kernel
theorem dX3_isWithin_35 : decode cX3_isWithin 35 = .ok (.iconst 0, 1) := by decide +kernel
theorem dX3_isWithin_36 : decode cX3_isWithin 36 = .ok (.ireturn, 1) := by decide +kernel
set_option maxRecDepth 20000 in
theorem ggX3_fewest_X3_in : GoodIn wsX3_fewest wsX3_in := goodIn_r _ [6] (by decide +kernel) (by decide +kernel)
set_option maxRecDepth 20000 in
theorem gX3_fewest_X3_in : GoodIn wsX3_fewest (va_wsS RX3 20 yX3_in wsX3_in) := goodIn_app (goodIn_of _ (by decide +kernel)) ggX3_fewest_X3_in
set_option maxRecDepth 20000 in
theorem ggX3_fewest_X3_size : GoodIn wsX3_fewest wsX3_size := goodIn_r _ [9] (by decide +kernel) (by decide +kernel)
set_option maxRecDepth 20000 in
theorem gX3_fewest_X3_size : GoodIn wsX3_fewest (va_wsS RX3 36 yX3_size wsX3_size) := goodIn_app (goodIn_of _ (by decide +kernel)) ggX3_fewest_X3_size
set_option maxRecDepth 20000 in
theorem ggX3_fewest_X3_isWithin : GoodIn wsX3_fewest wsX3_isWithin := goodIn_r _ [13, 14, 15, 16, 17, 5, 18, 19, 20, 21, 22, 23, 24, 25, 26, 27, 28, 29, 30, 31, 2, 32, 33, 34, 35, 36, 37, 38, 39, 40, 41, 42, 43, 44, 45, 46, 47, 48, 49, 50, 51, 52, 53, 54, 55, 56, 57, 58, 59, 60, 61, 62, 63, 64, 65, 66, 67, 68, 69, 70, 71, 72, 73, 74, 75] (by decide +kernel) (by decide +kernel)
set_option maxRecDepth 20000 in
theorem gX3_fewest_X3_isWithin : GoodIn wsX3_fewest (wsV RX3 156 RX3 yX3_isWithin wsX3_isWithin) := goodIn_app (goodIn_of _ (by decide +kernel)) ggX3_fewest_X3_isWithin
theorem dX3_fewest_0 : decode cX3_fewest 0 = .ok (.iload_n 1, 1) := by decide +kernel
theorem dX3_fewest_1 : decode cX3_fewest 1 = .ok (.i2l, 1) := by decide +kernel
theorem dX3_fewest_2 : decode cX3_fewest 2 = .ok (.lconst 0, 1) := by decide +kernel
theorem dX3_fewest_3 : decode cX3_fewest 3 = .ok (.ldc2_w 154, 3) := by decide +kernel
theorem dX3_fewest_6 : decode cX3_fewest 6 = .ok (.invokestatic 20, 3) := by decide +kernel
theorem dX3_fewest_9 : decode cX3_fewest 9 = .ok (.ifCond .eq 13, 3) := by decide +kernel
theorem dX3_fewest_12 : decode cX3_fewest 12 = .ok (.iload_n 2, 1) := by decide +kernel
theorem dX3_fewest_13 : decode cX3_fewest 13 = .ok (.i2l, 1) := by decide +kernel
theorem dX3_fewest_14 : decode cX3_fewest 14 = .ok (.lconst 0, 1) := by decide +kernel
theorem dX3_fewest_15 : decode cX3_fewest 15 = .ok (.lconst 1, 1) := by decide +kernel
theorem dX3_fewest_16 : decode cX3_fewest 16 = .ok (.invokestatic 20, 3) := by decide +kernel
theorem dX3_fewest_19 : decode cX3_fewest 19 = .ok (.ifCond .ne 6, 3) := by decide +kernel
theorem dX3_fewest_22 : decode cX3_fewest 22 = .ok (.bipush (-2), 2) := by decide +kernel
theorem dX3_fewest_24 : decode cX3_fewest 24 = .ok (.ireturn, 1) := by decide +kernel
theorem dX3_fewest_25 : decode cX3_fewest 25 = .ok (.bipush (-6), 2) := by decide +kernel
theorem dX3_fewest_27 : decode cX3_fewest 27 = .ok (.istore_n 3, 1) := by decide +kernel
theorem dX3_fewest_28 : decode cX3_fewest 28 = .ok (.iconst 0, 1) := by decide +kernel
theorem dX3_fewest_29 : decode cX3_fewest 29 = .ok (.istore 4, 2) := by decide +kernel
theorem dX3_fewest_31 : decode cX3_fewest 31 = .ok (.iload 4, 2) := by decide +kernel
theorem dX3_fewest_33 : decode cX3_fewest 33 = .ok (.iconst 1, 1) := by decide +kernel
theorem dX3_fewest_34 : decode cX3_fewest 34 = .ok (.aload_n 0, 1) := by decide +kernel
theorem dX3_fewest_35 : decode cX3_fewest 35 = .ok (.getfield 7, 3) := by decide +kernel
theorem dX3_fewest_38 : decode cX3_fewest 38 = .ok (.bipush 20, 2) := by decide +kernel
theorem dX3_fewest_40 : decode cX3_fewest 40 = .ok (.iaload, 1) := by decide +kernel
theorem dX3_fewest_41 : decode cX3_fewest 41 = .ok (.ishl, 1) := by decide +kernel
theorem dX3_fewest_42 : decode cX3_fewest 42 = .ok (.if_icmp .ge 79, 3) := by decide +kernel
theorem dX3_fewest_45 : decode cX3_fewest 45 = .ok (.iload 4, 2) := by decide +kernel
theorem dX3_fewest_47 : decode cX3_fewest 47 = .ok (.aload_n 0, 1) := by decide +kernel
theorem dX3_fewest_48 : decode cX3_fewest 48 = .ok (.getfield 7, 3) := by decide +kernel
theorem dX3_fewest_51 : decode cX3_fewest 51 = .ok (.bipush 21, 2) := by decide +kernel
theorem dX3_fewest_53 : decode cX3_fewest 53 = .ok (.iaload, 1) := by decide +kernel
theorem dX3_fewest_54 : decode cX3_fewest 54 = .ok (.iconst (-1), 1) := by decide +kernel
theorem dX3_fewest_55 : decode cX3_fewest 55 = .ok (.ixor, 1) := by decide +kernel
theorem dX3_fewest_56 : decode cX3_fewest 56 = .ok (.iand, 1) := by decide +kernel
theorem dX3_fewest_57 : decode cX3_fewest 57 = .ok (.ifCond .ne 23, 3) := by decide +kernel
theorem dX3_fewest_60 : decode cX3_fewest 60 = .ok (.iload_n 3, 1) := by decide +kernel
theorem dX3_fewest_61 : decode cX3_fewest 61 = .ok (.ifCond .lt 15, 3) := by decide +kernel
theorem dX3_fewest_64 : decode cX3_fewest 64 = .ok (.iload 4, 2) := by decide +kernel
theorem dX3_fewest_66 : decode cX3_fewest 66 = .ok (.invokestatic 36, 3) := by decide +kernel
theorem dX3_fewest_69 : decode cX3_fewest 69 = .ok (.iload_n 3, 1) := by decide +kernel
theorem dX3_fewest_70 : decode cX3_fewest 70 = .ok (.invokestatic 36, 3) := by decide +kernel
theorem dX3_fewest_73 : decode cX3_fewest 73 = .ok (.if_icmp .ge 7, 3) := by decide +kernel
theorem dX3_fewest_76 : decode cX3_fewest 76 = .ok (.iconst 1, 1) := by decide +kernel
theorem dX3_fewest_77 : decode cX3_fewest 77 = .ok (.goto 4, 3) := by decide +kernel
theorem dX3_fewest_80 : decode cX3_fewest 80 = .ok (.iconst 0, 1) := by decide +kernel
theorem dX3_fewest_81 : decode cX3_fewest 81 = .ok (.istore 5, 2) := by decide +kernel
theorem dX3_fewest_83 : decode cX3_fewest 83 = .ok (.iload 5, 2) := by decide +kernel
theorem dX3_fewest_85 : decode cX3_fewest 85 = .ok (.ifCond .eq 28, 3) := by decide +kernel
theorem dX3_fewest_88 : decode cX3_fewest 88 = .ok (.aload_n 0, 1) := by decide +kernel
theorem dX3_fewest_89 : decode cX3_fewest 89 = .ok (.aload_n 0, 1) := by decide +kernel
theorem dX3_fewest_90 : decode cX3_fewest 90 = .ok (.getfield 7, 3) := by decide +kernel
theorem dX3_fewest_93 : decode cX3_fewest 93 = .ok (.bipush 21, 2) := by decide +kernel
theorem dX3_fewest_95 : decode cX3_fewest 95 = .ok (.iaload, 1) := by decide +kernel
theorem dX3_fewest_96 : decode cX3_fewest 96 = .ok (.iload 4, 2) := by decide +kernel
theorem dX3_fewest_98 : decode cX3_fewest 98 = .ok (.iconst (-1), 1) := by decide +kernel
theorem dX3_fewest_99 : decode cX3_fewest 99 = .ok (.ixor, 1) := by decide +kernel
theorem dX3_fewest_100 : decode cX3_fewest 100 = .ok (.iand, 1) := by decide +kernel
theorem dX3_fewest_101 : decode cX3_fewest 101 = .ok (.iload_n 1, 1) := by decide +kernel
theorem dX3_fewest_102 : decode cX3_fewest 102 = .ok (.invokevirtual 156, 3) := by decide +kernel
theorem dX3_fewest_105 : decode cX3_fewest 105 = .ok (.ifCond .eq 8, 3) := by decide +kernel
theorem dX3_fewest_108 : decode cX3_fewest 108 = .ok (.iload 4, 2) := by decide +kernel
theorem dX3_fewest_110 : decode cX3_fewest 110 = .ok (.goto 4, 3) := by decide +kernel
theorem dX3_fewest_113 : decode cX3_fewest 113 = .ok (.iload_n 3, 1) := by decide +kernel
theorem dX3_fewest_114 : decode cX3_fewest 114 = .ok (.istore_n 3, 1) := by decide +kernel
theorem dX3_fewest_115 : decode cX3_fewest 115 = .ok (.iinc 4 1, 3) := by decide +kernel
theorem dX3_fewest_118 : decode cX3_fewest 118 = .ok (.goto (-87), 3) := by decide +kernel
theorem dX3_fewest_121 : decode cX3_fewest 121 = .ok (.iload_n 3, 1) := by decide +kernel
theorem dX3_fewest_122 : decode cX3_fewest 122 = .ok (.ifCond .lt 8, 3) := by decide +kernel
theorem dX3_fewest_125 : decode cX3_fewest 125 = .ok (.iload_n 2, 1) := by decide +kernel
theorem dX3_fewest_126 : decode cX3_fewest 126 = .ok (.iconst 1, 1) := by decide +kernel
theorem dX3_fewest_127 : decode cX3_fewest 127 = .ok (.if_icmp .ne 7, 3) := by decide +kernel
theorem dX3_fewest_130 : decode cX3_fewest 130 = .ok (.iload_n 3, 1) := by decide +kernel
theorem dX3_fewest_131 : decode cX3_fewest 131 = .ok (.goto 7, 3) := by decide +kernel
theorem dX3_fewest_134 : decode cX3_fewest 134 = .ok (.iload_n 3, 1) := by decide +kernel
theorem dX3_fewest_135 : decode cX3_fewest 135 = .ok (.invokestatic 36, 3) := by decide +kernel
theorem dX3_fewest_138 : decode cX3_fewest 138 = .ok (.ireturn, 1) := by decide +kernel
set_option maxRecDepth 20000 in
theorem ggX3_image_X3_in : GoodIn wsX3_image wsX3_in := goodIn_r _ [7] (by decide +kernel) (by decide +kernel)
set_option maxRecDepth 20000 in
theorem gX3_image_X3_in : GoodIn wsX3_image (va_wsS RX3 20 yX3_in wsX3_in) := goodIn_app (goodIn_of _ (by decide +kernel)) ggX3_image_X3_in
theorem dX3_image_0 : decode cX3_image 0 = .ok (.iload_n 1, 1) := by decide +kernel
theorem dX3_image_1 : decode cX3_image 1 = .ok (.i2l, 1) := by decide +kernel
theorem dX3_image_2 : decode cX3_image 2 = .ok (.lconst 0, 1) := by decide +kernel
theorem dX3_image_3 : decode cX3_image 3 = .ok (.lconst 1, 1) := by decide +kernel
theorem dX3_image_4 : decode cX3_image 4 = .ok (.invokestatic 20, 3) := by decide +kernel
theorem dX3_image_7 : decode cX3_image 7 = .ok (.ifCond .ne 6, 3) := by decide +kernel
theorem dX3_image_10 : decode cX3_image 10 = .ok (.bipush (-2), 2) := by decide +kernel
theorem dX3_image_12 : decode cX3_image 12 = .ok (.ireturn, 1) := by decide +kernel
theorem dX3_image_13 : decode cX3_image 13 = .ok (.iconst 0, 1) := by decide +kernel
theorem dX3_image_14 : decode cX3_image 14 = .ok (.istore_n 2, 1) := by decide +kernel
theorem dX3_image_15 : decode cX3_image 15 = .ok (.iload_n 2, 1) := by decide +kernel
theorem dX3_image_16 : decode cX3_image 16 = .ok (.bipush 23, 2) := by decide +kernel
theorem dX3_image_18 : decode cX3_image 18 = .ok (.if_icmp .ge 26, 3) := by decide +kernel
theorem dX3_image_21 : decode cX3_image 21 = .ok (.aload_n 0, 1) := by decide +kernel
theorem dX3_image_22 : decode cX3_image 22 = .ok (.getfield 13, 3) := by decide +kernel
theorem dX3_image_25 : decode cX3_image 25 = .ok (.bipush 23, 2) := by decide +kernel
theorem dX3_image_27 : decode cX3_image 27 = .ok (.iload_n 1, 1) := by decide +kernel
theorem dX3_image_28 : decode cX3_image 28 = .ok (.imul, 1) := by decide +kernel
theorem dX3_image_29 : decode cX3_image 29 = .ok (.iload_n 2, 1) := by decide +kernel
theorem dX3_image_30 : decode cX3_image 30 = .ok (.iadd, 1) := by decide +kernel
theorem dX3_image_31 : decode cX3_image 31 = .ok (.aload_n 0, 1) := by decide +kernel
theorem dX3_image_32 : decode cX3_image 32 = .ok (.getfield 7, 3) := by decide +kernel
theorem dX3_image_35 : decode cX3_image 35 = .ok (.iload_n 2, 1) := by decide +kernel
theorem dX3_image_36 : decode cX3_image 36 = .ok (.iaload, 1) := by decide +kernel
theorem dX3_image_37 : decode cX3_image 37 = .ok (.iastore, 1) := by decide +kernel
theorem dX3_image_38 : decode cX3_image 38 = .ok (.iinc 2 1, 3) := by decide +kernel
theorem dX3_image_41 : decode cX3_image 41 = .ok (.goto (-26), 3) := by decide +kernel
theorem dX3_image_44 : decode cX3_image 44 = .ok (.aload_n 0, 1) := by decide +kernel
theorem dX3_image_45 : decode cX3_image 45 = .ok (.getfield 16, 3) := by decide +kernel
theorem dX3_image_48 : decode cX3_image 48 = .ok (.iload_n 1, 1) := by decide +kernel
theorem dX3_image_49 : decode cX3_image 49 = .ok (.iconst 1, 1) := by decide +kernel
theorem dX3_image_50 : decode cX3_image 50 = .ok (.bastore, 1) := by decide +kernel
theorem dX3_image_51 : decode cX3_image 51 = .ok (.iconst 1, 1) := by decide +kernel
theorem dX3_image_52 : decode cX3_image 52 = .ok (.ireturn, 1) := by decide +kernel
set_option maxRecDepth 20000 in
theorem ggX3_restore_X3_in : GoodIn wsX3_restore wsX3_in := goodIn_r _ [7] (by decide +kernel) (by decide +kernel)
set_option maxRecDepth 20000 in
theorem gX3_restore_X3_in : GoodIn wsX3_restore (va_wsS RX3 20 yX3_in wsX3_in) := goodIn_app (goodIn_of _ (by decide +kernel)) ggX3_restore_X3_in
theorem dX3_restore_0 : decode cX3_restore 0 = .ok (.iload_n 1, 1) := by decide +kernel
theorem dX3_restore_1 : decode cX3_restore 1 = .ok (.i2l, 1) := by decide +kernel
theorem dX3_restore_2 : decode cX3_restore 2 = .ok (.lconst 0, 1) := by decide +kernel
theorem dX3_restore_3 : decode cX3_restore 3 = .ok (.lconst 1, 1) := by decide +kernel
theorem dX3_restore_4 : decode cX3_restore 4 = .ok (.invokestatic 20, 3) := by decide +kernel
theorem dX3_restore_7 : decode cX3_restore 7 = .ok (.ifCond .ne 6, 3) := by decide +kernel
theorem dX3_restore_10 : decode cX3_restore 10 = .ok (.bipush (-2), 2) := by decide +kernel
theorem dX3_restore_12 : decode cX3_restore 12 = .ok (.ireturn, 1) := by decide +kernel
theorem dX3_restore_13 : decode cX3_restore 13 = .ok (.aload_n 0, 1) := by decide +kernel
theorem dX3_restore_14 : decode cX3_restore 14 = .ok (.getfield 16, 3) := by decide +kernel
theorem dX3_restore_17 : decode cX3_restore 17 = .ok (.iload_n 1, 1) := by decide +kernel
theorem dX3_restore_18 : decode cX3_restore 18 = .ok (.baload, 1) := by decide +kernel
theorem dX3_restore_19 : decode cX3_restore 19 = .ok (.ifCond .ne 6, 3) := by decide +kernel
theorem dX3_restore_22 : decode cX3_restore 22 = .ok (.bipush (-3), 2) := by decide +kernel
theorem dX3_restore_24 : decode cX3_restore 24 = .ok (.ireturn, 1) := by decide +kernel
theorem dX3_restore_25 : decode cX3_restore 25 = .ok (.iconst 0, 1) := by decide +kernel
theorem dX3_restore_26 : decode cX3_restore 26 = .ok (.istore_n 2, 1) := by decide +kernel
theorem dX3_restore_27 : decode cX3_restore 27 = .ok (.iload_n 2, 1) := by decide +kernel
theorem dX3_restore_28 : decode cX3_restore 28 = .ok (.bipush 23, 2) := by decide +kernel
theorem dX3_restore_30 : decode cX3_restore 30 = .ok (.if_icmp .ge 26, 3) := by decide +kernel
theorem dX3_restore_33 : decode cX3_restore 33 = .ok (.aload_n 0, 1) := by decide +kernel
theorem dX3_restore_34 : decode cX3_restore 34 = .ok (.getfield 7, 3) := by decide +kernel
theorem dX3_restore_37 : decode cX3_restore 37 = .ok (.iload_n 2, 1) := by decide +kernel
theorem dX3_restore_38 : decode cX3_restore 38 = .ok (.aload_n 0, 1) := by decide +kernel
theorem dX3_restore_39 : decode cX3_restore 39 = .ok (.getfield 13, 3) := by decide +kernel
theorem dX3_restore_42 : decode cX3_restore 42 = .ok (.bipush 23, 2) := by decide +kernel
theorem dX3_restore_44 : decode cX3_restore 44 = .ok (.iload_n 1, 1) := by decide +kernel
theorem dX3_restore_45 : decode cX3_restore 45 = .ok (.imul, 1) := by decide +kernel
theorem dX3_restore_46 : decode cX3_restore 46 = .ok (.iload_n 2, 1) := by decide +kernel
theorem dX3_restore_47 : decode cX3_restore 47 = .ok (.iadd, 1) := by decide +kernel
theorem dX3_restore_48 : decode cX3_restore 48 = .ok (.iaload, 1) := by decide +kernel
theorem dX3_restore_49 : decode cX3_restore 49 = .ok (.iastore, 1) := by decide +kernel
theorem dX3_restore_50 : decode cX3_restore 50 = .ok (.iinc 2 1, 3) := by decide +kernel
theorem dX3_restore_53 : decode cX3_restore 53 = .ok (.goto (-26), 3) := by decide +kernel
theorem dX3_restore_56 : decode cX3_restore 56 = .ok (.iconst 1, 1) := by decide +kernel
theorem dX3_restore_57 : decode cX3_restore 57 = .ok (.ireturn, 1) := by decide +kernel
set_option maxRecDepth 20000 in
theorem ggX3_count_X3_size : GoodIn wsX3_count wsX3_size := goodIn_r _ [6] (by decide +kernel) (by decide +kernel)
set_option maxRecDepth 20000 in
theorem gX3_count_X3_size : GoodIn wsX3_count (va_wsS RX3 36 yX3_size wsX3_size) := goodIn_app (goodIn_of _ (by decide +kernel)) ggX3_count_X3_size
set_option maxRecDepth 20000 in
theorem ggX3_count_X3_layTaken : GoodIn wsX3_count wsX3_layTaken := goodIn_r _ [10, 1, 11, 12, 13, 5, 14, 15, 16, 17, 18, 19, 20, 21, 22, 23, 24, 25, 26, 27, 28, 29, 30, 31, 32, 33, 34, 35, 36, 37, 38, 39, 40, 41, 42, 43, 44, 45, 46, 47, 48, 49, 50, 51, 52, 53, 54, 55, 56, 57, 58, 59, 60, 61] (by decide +kernel) (by decide +kernel)
set_option maxRecDepth 20000 in
theorem gX3_count_X3_layTaken : GoodIn wsX3_count (wsV RX3 114 RX3 yX3_layTaken wsX3_layTaken) := goodIn_app (goodIn_of _ (by decide +kernel)) ggX3_count_X3_layTaken
theorem dX3_count_0 : decode cX3_count 0 = .ok (.iload_n 1, 1) := by decide +kernel
theorem dX3_count_1 : decode cX3_count 1 = .ok (.tableswitch 117 0 5 #[39, 47, 58, 66, 74, 87], 39) := by decide +kernel
theorem dX3_count_40 : decode cX3_count 40 = .ok (.aload_n 0, 1) := by decide +kernel
theorem dX3_count_41 : decode cX3_count 41 = .ok (.getfield 7, 3) := by decide +kernel
theorem dX3_count_44 : decode cX3_count 44 = .ok (.bipush 20, 2) := by decide +kernel
theorem dX3_count_46 : decode cX3_count 46 = .ok (.iaload, 1) := by decide +kernel
theorem dX3_count_47 : decode cX3_count 47 = .ok (.ireturn, 1) := by decide +kernel
theorem dX3_count_48 : decode cX3_count 48 = .ok (.aload_n 0, 1) := by decide +kernel
theorem dX3_count_49 : decode cX3_count 49 = .ok (.getfield 7, 3) := by decide +kernel
theorem dX3_count_52 : decode cX3_count 52 = .ok (.bipush 21, 2) := by decide +kernel
theorem dX3_count_54 : decode cX3_count 54 = .ok (.iaload, 1) := by decide +kernel
theorem dX3_count_55 : decode cX3_count 55 = .ok (.invokestatic 36, 3) := by decide +kernel
theorem dX3_count_58 : decode cX3_count 58 = .ok (.ireturn, 1) := by decide +kernel
theorem dX3_count_59 : decode cX3_count 59 = .ok (.aload_n 0, 1) := by decide +kernel
theorem dX3_count_60 : decode cX3_count 60 = .ok (.getfield 7, 3) := by decide +kernel
theorem dX3_count_63 : decode cX3_count 63 = .ok (.bipush 21, 2) := by decide +kernel
theorem dX3_count_65 : decode cX3_count 65 = .ok (.iaload, 1) := by decide +kernel
theorem dX3_count_66 : decode cX3_count 66 = .ok (.ireturn, 1) := by decide +kernel
theorem dX3_count_67 : decode cX3_count 67 = .ok (.aload_n 0, 1) := by decide +kernel
theorem dX3_count_68 : decode cX3_count 68 = .ok (.getfield 7, 3) := by decide +kernel
theorem dX3_count_71 : decode cX3_count 71 = .ok (.bipush 22, 2) := by decide +kernel
theorem dX3_count_73 : decode cX3_count 73 = .ok (.iaload, 1) := by decide +kernel
theorem dX3_count_74 : decode cX3_count 74 = .ok (.ireturn, 1) := by decide +kernel
theorem dX3_count_75 : decode cX3_count 75 = .ok (.aload_n 0, 1) := by decide +kernel
theorem dX3_count_76 : decode cX3_count 76 = .ok (.invokevirtual 114, 3) := by decide +kernel
theorem dX3_count_79 : decode cX3_count 79 = .ok (.ifCond .eq 7, 3) := by decide +kernel
theorem dX3_count_82 : decode cX3_count 82 = .ok (.iconst 0, 1) := by decide +kernel
theorem dX3_count_83 : decode cX3_count 83 = .ok (.goto 4, 3) := by decide +kernel
theorem dX3_count_86 : decode cX3_count 86 = .ok (.iconst 1, 1) := by decide +kernel
theorem dX3_count_87 : decode cX3_count 87 = .ok (.ireturn, 1) := by decide +kernel
theorem dX3_count_88 : decode cX3_count 88 = .ok (.aload_n 0, 1) := by decide +kernel
theorem dX3_count_89 : decode cX3_count 89 = .ok (.getfield 16, 3) := by decide +kernel
theorem dX3_count_92 : decode cX3_count 92 = .ok (.iconst 0, 1) := by decide +kernel
theorem dX3_count_93 : decode cX3_count 93 = .ok (.baload, 1) := by decide +kernel
theorem dX3_count_94 : decode cX3_count 94 = .ok (.ifCond .eq 7, 3) := by decide +kernel
theorem dX3_count_97 : decode cX3_count 97 = .ok (.iconst 1, 1) := by decide +kernel
theorem dX3_count_98 : decode cX3_count 98 = .ok (.goto 4, 3) := by decide +kernel
theorem dX3_count_101 : decode cX3_count 101 = .ok (.iconst 0, 1) := by decide +kernel
theorem dX3_count_102 : decode cX3_count 102 = .ok (.aload_n 0, 1) := by decide +kernel
theorem dX3_count_103 : decode cX3_count 103 = .ok (.getfield 16, 3) := by decide +kernel
theorem dX3_count_106 : decode cX3_count 106 = .ok (.iconst 1, 1) := by decide +kernel
theorem dX3_count_107 : decode cX3_count 107 = .ok (.baload, 1) := by decide +kernel
theorem dX3_count_108 : decode cX3_count 108 = .ok (.ifCond .eq 7, 3) := by decide +kernel
theorem dX3_count_111 : decode cX3_count 111 = .ok (.iconst 2, 1) := by decide +kernel
theorem dX3_count_112 : decode cX3_count 112 = .ok (.goto 4, 3) := by decide +kernel
theorem dX3_count_115 : decode cX3_count 115 = .ok (.iconst 0, 1) := by decide +kernel
theorem dX3_count_116 : decode cX3_count 116 = .ok (.iadd, 1) := by decide +kernel
theorem dX3_count_117 : decode cX3_count 117 = .ok (.ireturn, 1) := by decide +kernel
theorem dX3_count_118 : decode cX3_count 118 = .ok (.bipush (-2), 2) := by decide +kernel
theorem dX3_count_120 : decode cX3_count 120 = .ok (.ireturn, 1) := by decide +kernel
theorem dJ6_bitCount_0f7a4_0 : decode cJ6_bitCount_0f7a4 0 = .ok (.iload_n 0, 1) := by decide +kernel
theorem dJ6_bitCount_0f7a4_1 : decode cJ6_bitCount_0f7a4 1 = .ok (.iload_n 0, 1) := by decide +kernel
theorem dJ6_bitCount_0f7a4_2 : decode cJ6_bitCount_0f7a4 2 = .ok (.iconst 1, 1) := by decide +kernel
theorem dJ6_bitCount_0f7a4_3 : decode cJ6_bitCount_0f7a4 3 = .ok (.iushr, 1) := by decide +kernel
theorem dJ6_bitCount_0f7a4_4 : decode cJ6_bitCount_0f7a4 4 = .ok (.ldc_w 265, 3) := by decide +kernel
theorem dJ6_bitCount_0f7a4_7 : decode cJ6_bitCount_0f7a4 7 = .ok (.iand, 1) := by decide +kernel
theorem dJ6_bitCount_0f7a4_8 : decode cJ6_bitCount_0f7a4 8 = .ok (.isub, 1) := by decide +kernel
theorem dJ6_bitCount_0f7a4_9 : decode cJ6_bitCount_0f7a4 9 = .ok (.istore_n 0, 1) := by decide +kernel
theorem dJ6_bitCount_0f7a4_10 : decode cJ6_bitCount_0f7a4 10 = .ok (.iload_n 0, 1) := by decide +kernel
theorem dJ6_bitCount_0f7a4_11 : decode cJ6_bitCount_0f7a4 11 = .ok (.ldc_w 266, 3) := by decide +kernel
theorem dJ6_bitCount_0f7a4_14 : decode cJ6_bitCount_0f7a4 14 = .ok (.iand, 1) := by decide +kernel
theorem dJ6_bitCount_0f7a4_15 : decode cJ6_bitCount_0f7a4 15 = .ok (.iload_n 0, 1) := by decide +kernel
theorem dJ6_bitCount_0f7a4_16 : decode cJ6_bitCount_0f7a4 16 = .ok (.iconst 2, 1) := by decide +kernel
theorem dJ6_bitCount_0f7a4_17 : decode cJ6_bitCount_0f7a4 17 = .ok (.iushr, 1) := by decide +kernel
theorem dJ6_bitCount_0f7a4_18 : decode cJ6_bitCount_0f7a4 18 = .ok (.ldc_w 266, 3) := by decide +kernel
theorem dJ6_bitCount_0f7a4_21 : decode cJ6_bitCount_0f7a4 21 = .ok (.iand, 1) := by decide +kernel
theorem dJ6_bitCount_0f7a4_22 : decode cJ6_bitCount_0f7a4 22 = .ok (.iadd, 1) := by decide +kernel
theorem dJ6_bitCount_0f7a4_23 : decode cJ6_bitCount_0f7a4 23 = .ok (.istore_n 0, 1) := by decide +kernel
theorem dJ6_bitCount_0f7a4_24 : decode cJ6_bitCount_0f7a4 24 = .ok (.iload_n 0, 1) := by decide +kernel
theorem dJ6_bitCount_0f7a4_25 : decode cJ6_bitCount_0f7a4 25 = .ok (.iload_n 0, 1) := by decide +kernel
theorem dJ6_bitCount_0f7a4_26 : decode cJ6_bitCount_0f7a4 26 = .ok (.iconst 4, 1) := by decide +kernel
theorem dJ6_bitCount_0f7a4_27 : decode cJ6_bitCount_0f7a4 27 = .ok (.iushr, 1) := by decide +kernel
theorem dJ6_bitCount_0f7a4_28 : decode cJ6_bitCount_0f7a4 28 = .ok (.iadd, 1) := by decide +kernel
theorem dJ6_bitCount_0f7a4_29 : decode cJ6_bitCount_0f7a4 29 = .ok (.ldc_w 267, 3) := by decide +kernel
theorem dJ6_bitCount_0f7a4_32 : decode cJ6_bitCount_0f7a4 32 = .ok (.iand, 1) := by decide +kernel
theorem dJ6_bitCount_0f7a4_33 : decode cJ6_bitCount_0f7a4 33 = .ok (.istore_n 0, 1) := by decide +kernel
theorem dJ6_bitCount_0f7a4_34 : decode cJ6_bitCount_0f7a4 34 = .ok (.iload_n 0, 1) := by decide +kernel
theorem dJ6_bitCount_0f7a4_35 : decode cJ6_bitCount_0f7a4 35 = .ok (.iload_n 0, 1) := by decide +kernel
theorem dJ6_bitCount_0f7a4_36 : decode cJ6_bitCount_0f7a4 36 = .ok (.bipush 8, 2) := by decide +kernel
theorem dJ6_bitCount_0f7a4_38 : decode cJ6_bitCount_0f7a4 38 = .ok (.iushr, 1) := by decide +kernel
theorem dJ6_bitCount_0f7a4_39 : decode cJ6_bitCount_0f7a4 39 = .ok (.iadd, 1) := by decide +kernel
theorem dJ6_bitCount_0f7a4_40 : decode cJ6_bitCount_0f7a4 40 = .ok (.istore_n 0, 1) := by decide +kernel
theorem dJ6_bitCount_0f7a4_41 : decode cJ6_bitCount_0f7a4 41 = .ok (.iload_n 0, 1) := by decide +kernel
theorem dJ6_bitCount_0f7a4_42 : decode cJ6_bitCount_0f7a4 42 = .ok (.iload_n 0, 1) := by decide +kernel
theorem dJ6_bitCount_0f7a4_43 : decode cJ6_bitCount_0f7a4 43 = .ok (.bipush 16, 2) := by decide +kernel
theorem dJ6_bitCount_0f7a4_45 : decode cJ6_bitCount_0f7a4 45 = .ok (.iushr, 1) := by decide +kernel
theorem dJ6_bitCount_0f7a4_46 : decode cJ6_bitCount_0f7a4 46 = .ok (.iadd, 1) := by decide +kernel
theorem dJ6_bitCount_0f7a4_47 : decode cJ6_bitCount_0f7a4 47 = .ok (.istore_n 0, 1) := by decide +kernel
theorem dJ6_bitCount_0f7a4_48 : decode cJ6_bitCount_0f7a4 48 = .ok (.iload_n 0, 1) := by decide +kernel
theorem dJ6_bitCount_0f7a4_49 : decode cJ6_bitCount_0f7a4 49 = .ok (.bipush 63, 2) := by decide +kernel
theorem dJ6_bitCount_0f7a4_51 : decode cJ6_bitCount_0f7a4 51 = .ok (.iand, 1) := by decide +kernel
theorem dJ6_bitCount_0f7a4_52 : decode cJ6_bitCount_0f7a4 52 = .ok (.ireturn, 1) := by decide +kernel
theorem dJ9_abs_067f4_0 : decode cJ9_abs_067f4 0 = .ok (.lload_n 0, 1) := by decide +kernel
theorem dJ9_abs_067f4_1 : decode cJ9_abs_067f4 1 = .ok (.lconst 0, 1) := by decide +kernel
theorem dJ9_abs_067f4_2 : decode cJ9_abs_067f4 2 = .ok (.lcmp, 1) := by decide +kernel
theorem dJ9_abs_067f4_3 : decode cJ9_abs_067f4 3 = .ok (.ifCond .ge 8, 3) := by decide +kernel
theorem dJ9_abs_067f4_6 : decode cJ9_abs_067f4 6 = .ok (.lload_n 0, 1) := by decide +kernel
theorem dJ9_abs_067f4_7 : decode cJ9_abs_067f4 7 = .ok (.lneg, 1) := by decide +kernel
theorem dJ9_abs_067f4_8 : decode cJ9_abs_067f4 8 = .ok (.goto 4, 3) := by decide +kernel
theorem dJ9_abs_067f4_11 : decode cJ9_abs_067f4 11 = .ok (.lload_n 0, 1) := by decide +kernel
theorem dJ9_abs_067f4_12 : decode cJ9_abs_067f4 12 = .ok (.lreturn, 1) := by decide +kernel
set_option maxRecDepth 20000 in
theorem ggL_law_X2_init : GoodIn wsL_law wsX2_init := goodIn_r _ [8, 9, 10, 11, 12, 13, 14, 15, 16, 17, 18, 19, 20, 21, 22, 23, 24, 25, 26, 27, 28, 29, 30, 31, 32, 33, 34, 35, 36, 469, 470, 471, 472, 473, 447, 448, 449, 450, 451, 452, 474, 475, 476, 477, 478, 479, 480, 481, 482, 483, 484, 485, 486] (by decide +kernel) (by decide +kernel)
set_option maxRecDepth 20000 in
theorem gL_law_X2_init : GoodIn wsL_law (wsX2_init) := ggL_law_X2_init
set_option maxRecDepth 20000 in
theorem ggL_law_X3_init : GoodIn wsL_law wsX3_init := goodIn_r _ [39, 40, 10, 11, 28, 41, 42, 43, 44, 453, 454, 455, 456, 457, 458, 459, 460, 461, 462, 463, 464, 465, 466, 467, 468] (by decide +kernel) (by decide +kernel)
set_option maxRecDepth 20000 in
theorem gL_law_X3_init : GoodIn wsL_law (wsX3_init) := ggL_law_X3_init
set_option maxRecDepth 20000 in
theorem ggL_law_X2_add : GoodIn wsL_law wsX2_add := goodIn_r _ [48, 15, 49, 50, 51, 52, 53, 54, 2, 55, 56, 57, 58, 447, 448, 449, 450, 451, 452, 469, 470, 471, 472, 473] (by decide +kernel) (by decide +kernel)
set_option maxRecDepth 20000 in
theorem gL_law_X2_add : GoodIn wsL_law (wsV RL 13 RX2 yX2_add wsX2_add) := goodIn_app (goodIn_of _ (by decide +kernel)) ggL_law_X2_add
set_option maxRecDepth 20000 in
theorem ggL_law_X3_add : GoodIn wsL_law wsX3_add := goodIn_r _ [62, 41, 63, 64, 5, 65, 66, 67, 68, 69, 70, 453, 454, 455, 456, 457, 458, 459, 460, 461, 462, 463, 464, 465, 466, 467, 468] (by decide +kernel) (by decide +kernel)
set_option maxRecDepth 20000 in
theorem gL_law_X3_add : GoodIn wsL_law (wsV RL 17 RX3 yX3_add wsX3_add) := goodIn_app (goodIn_of _ (by decide +kernel)) ggL_law_X3_add
set_option maxRecDepth 20000 in
theorem ggL_law_X2_clear : GoodIn wsL_law wsX2_clear := goodIn_r _ [74, 15, 49, 52, 447, 448, 449, 450, 451, 452, 469, 470, 471, 472, 473] (by decide +kernel) (by decide +kernel)
set_option maxRecDepth 20000 in
theorem gL_law_X2_clear : GoodIn wsL_law (wsV RL 18 RX2 yX2_clear wsX2_clear) := goodIn_app (goodIn_of _ (by decide +kernel)) ggL_law_X2_clear
set_option maxRecDepth 20000 in
theorem ggL_law_X3_clear : GoodIn wsL_law wsX3_clear := goodIn_r _ [78, 41, 453, 454, 455, 456, 457, 458, 459, 460, 461, 462, 463, 464, 465, 466, 467, 468] (by decide +kernel) (by decide +kernel)
set_option maxRecDepth 20000 in
theorem gL_law_X3_clear : GoodIn wsL_law (wsV RL 22 RX3 yX3_clear wsX3_clear) := goodIn_app (goodIn_of _ (by decide +kernel)) ggL_law_X3_clear
set_option maxRecDepth 20000 in
theorem ggL_law_X2_take : GoodIn wsL_law wsX2_take := goodIn_r _ [82, 15, 52, 83, 84, 85, 2, 86, 49, 56, 57, 58, 87, 88, 89, 90, 91, 92, 93, 447, 448, 449, 450, 451, 452, 469, 470, 471, 472, 473] (by decide +kernel) (by decide +kernel)
set_option maxRecDepth 20000 in
theorem gL_law_X2_take : GoodIn wsL_law (wsV RL 23 RX2 yX2_take wsX2_take) := goodIn_app (goodIn_of _ (by decide +kernel)) ggL_law_X2_take
set_option maxRecDepth 20000 in
theorem ggL_law_X3_take : GoodIn wsL_law wsX3_take := goodIn_r _ [97, 41, 98, 99, 100, 5, 101, 68, 69, 70, 102, 103, 104, 453, 454, 455, 456, 457, 458, 459, 460, 461, 462, 463, 464, 465, 466, 467, 468] (by decide +kernel) (by decide +kernel)
set_option maxRecDepth 20000 in
theorem gL_law_X3_take : GoodIn wsL_law (wsV RL 26 RX3 yX3_take wsX3_take) := goodIn_app (goodIn_of _ (by decide +kernel)) ggL_law_X3_take
set_option maxRecDepth 20000 in
theorem ggL_law_X2_of : GoodIn wsL_law wsX2_of := goodIn_r _ [108, 15, 50, 51, 52, 83, 84, 85, 2, 86, 49, 109, 110, 111, 112, 113, 114, 447, 448, 449, 450, 451, 452, 469, 470, 471, 472, 473] (by decide +kernel) (by decide +kernel)
set_option maxRecDepth 20000 in
theorem gL_law_X2_of : GoodIn wsL_law (wsV RL 27 RX2 yX2_of wsX2_of) := goodIn_app (goodIn_of _ (by decide +kernel)) ggL_law_X2_of
set_option maxRecDepth 20000 in
theorem ggL_law_X3_of : GoodIn wsL_law wsX3_of := goodIn_r _ [118, 41, 98, 99, 100, 5, 101, 68, 69, 70, 119, 120, 121, 453, 454, 455, 456, 457, 458, 459, 460, 461, 462, 463, 464, 465, 466, 467, 468] (by decide +kernel) (by decide +kernel)
set_option maxRecDepth 20000 in
theorem gL_law_X3_of : GoodIn wsL_law (wsV RL 30 RX3 yX3_of wsX3_of) := goodIn_app (goodIn_of _ (by decide +kernel)) ggL_law_X3_of
set_option maxRecDepth 20000 in
theorem ggL_law_X2_round : GoodIn wsL_law wsX2_round := goodIn_r _ [125, 126, 22, 127, 128, 129, 130, 131, 56, 57, 2, 58, 132, 133, 134, 135, 15, 52, 136, 137, 138, 139, 50, 51, 140, 141, 142, 21, 143, 144, 145, 146, 147, 148, 149, 150, 151, 152, 109, 110, 111, 153, 154, 155, 156, 113, 114, 157, 158, 159, 160, 161, 162, 163, 164, 165, 166, 167, 168, 169, 170, 171, 172, 173, 174, 175, 176, 177, 178, 179, 180, 181, 182, 447, 448, 449, 450, 451, 452, 474, 475, 476, 477, 478, 479, 480, 481, 482, 483, 484, 485, 486, 469, 470, 471, 472, 473] (by decide +kernel) (by decide +kernel)
set_option maxRecDepth 20000 in
theorem gL_law_X2_round : GoodIn wsL_law (wsV RL 31 RX2 yX2_round wsX2_round) := goodIn_app (goodIn_of _ (by decide +kernel)) ggL_law_X2_round
set_option maxRecDepth 20000 in
theorem ggL_law_X3_round : GoodIn wsL_law wsX3_round := goodIn_r _ [186, 187, 188, 189, 190, 191, 192, 193, 68, 69, 5, 70, 194, 195, 196, 197, 41, 198, 199, 200, 201, 202, 203, 204, 205, 206, 207, 208, 209, 210, 211, 212, 213, 214, 215, 216, 217, 218, 119, 120, 121, 219, 220, 221, 222, 223, 224, 225, 226, 227, 228, 229, 230, 231, 232, 233, 234, 453, 454, 455, 456, 457, 458, 459, 460, 461, 462, 463, 464, 465, 466, 467, 468] (by decide +kernel) (by decide +kernel)
set_option maxRecDepth 20000 in
theorem gL_law_X3_round : GoodIn wsL_law (wsV RL 35 RX3 yX3_round wsX3_round) := goodIn_app (goodIn_of _ (by decide +kernel)) ggL_law_X3_round
set_option maxRecDepth 20000 in
theorem ggL_law_X2_middle : GoodIn wsL_law wsX2_middle := goodIn_r _ [238, 126, 22, 127, 129, 130, 239, 131, 56, 57, 2, 58, 132, 133, 134, 135, 15, 52, 136, 137, 138, 139, 50, 51, 140, 141, 142, 21, 143, 144, 145, 146, 147, 148, 149, 150, 151, 152, 109, 110, 111, 153, 154, 155, 156, 113, 114, 157, 158, 159, 160, 161, 162, 163, 164, 165, 166, 167, 168, 173, 174, 175, 176, 177, 178, 179, 180, 181, 182, 447, 448, 449, 450, 451, 452, 474, 475, 476, 477, 478, 479, 480, 481, 482, 483, 484, 485, 486, 469, 470, 471, 472, 473] (by decide +kernel) (by decide +kernel)
set_option maxRecDepth 20000 in
theorem gL_law_X2_middle : GoodIn wsL_law (wsV RL 36 RX2 yX2_middle wsX2_middle) := goodIn_app (goodIn_of _ (by decide +kernel)) ggL_law_X2_middle
set_option maxRecDepth 20000 in
theorem ggL_law_X3_middle : GoodIn wsL_law wsX3_middle := goodIn_r _ [243, 188, 189, 190, 191, 187, 193, 68, 69, 5, 70, 194, 195, 196, 197, 41, 198, 199, 200, 201, 202, 203, 204, 205, 206, 207, 208, 209, 210, 211, 212, 213, 214, 215, 216, 217, 218, 119, 120, 121, 219, 220, 221, 222, 192, 223, 224, 225, 226, 227, 228, 229, 230, 231, 232, 233, 234, 453, 454, 455, 456, 457, 458, 459, 460, 461, 462, 463, 464, 465, 466, 467, 468] (by decide +kernel) (by decide +kernel)
set_option maxRecDepth 20000 in
theorem gL_law_X3_middle : GoodIn wsL_law (wsV RL 39 RX3 yX3_middle wsX3_middle) := goodIn_app (goodIn_of _ (by decide +kernel)) ggL_law_X3_middle
set_option maxRecDepth 20000 in
theorem ggL_law_X2_off : GoodIn wsL_law wsX2_off := goodIn_r _ [247, 248, 126, 22, 127, 15, 50, 51, 83, 84, 85, 2, 86, 49, 56, 57, 58, 132, 133, 134, 135, 52, 136, 137, 138, 139, 140, 141, 142, 21, 143, 144, 145, 146, 147, 148, 149, 150, 151, 152, 109, 110, 111, 153, 154, 155, 156, 113, 114, 157, 158, 159, 160, 161, 162, 163, 164, 165, 166, 167, 168, 249, 250, 251, 252, 169, 170, 171, 172, 173, 174, 175, 176, 177, 178, 179, 180, 181, 182, 447, 448, 449, 450, 451, 452, 469, 470, 471, 472, 473, 474, 475, 476, 477, 478, 479, 480, 481, 482, 483, 484, 485, 486] (by decide +kernel) (by decide +kernel)
set_option maxRecDepth 20000 in
theorem gL_law_X2_off : GoodIn wsL_law (wsV RL 40 RX2 yX2_off wsX2_off) := goodIn_app (goodIn_of _ (by decide +kernel)) ggL_law_X2_off
set_option maxRecDepth 20000 in
theorem ggL_law_X3_off : GoodIn wsL_law wsX3_off := goodIn_r _ [256, 257, 188, 189, 193, 98, 99, 100, 5, 101, 41, 68, 69, 70, 194, 195, 196, 197, 198, 199, 200, 201, 202, 203, 204, 205, 206, 207, 208, 209, 210, 211, 212, 213, 214, 215, 216, 217, 218, 119, 120, 121, 219, 220, 221, 222, 190, 191, 192, 223, 224, 225, 258, 259, 260, 261, 226, 227, 228, 229, 230, 231, 232, 233, 234, 453, 454, 455, 456, 457, 458, 459, 460, 461, 462, 463, 464, 465, 466, 467, 468] (by decide +kernel) (by decide +kernel)
set_option maxRecDepth 20000 in
theorem gL_law_X3_off : GoodIn wsL_law (wsV RL 43 RX3 yX3_off wsX3_off) := goodIn_app (goodIn_of _ (by decide +kernel)) ggL_law_X3_off
set_option maxRecDepth 20000 in
theorem ggL_law_X2_worst : GoodIn wsL_law wsX2_worst := goodIn_r _ [265, 22, 56, 57, 2, 58, 132, 133, 134, 135, 15, 52, 136, 137, 138, 139, 50, 51, 140, 141, 142, 21, 143, 144, 145, 146, 147, 148, 149, 150, 151, 152, 109, 110, 111, 153, 154, 155, 156, 113, 114, 157, 158, 159, 160, 161, 162, 163, 164, 165, 166, 167, 168, 266, 267, 268, 269, 270, 271, 272, 273, 274, 176, 177, 178, 179, 83, 84, 85, 86, 49, 249, 250, 251, 252, 169, 170, 171, 172, 447, 448, 449, 450, 451, 452, 469, 470, 471, 472, 473, 474, 475, 476, 477, 478, 479, 480, 481, 482, 483, 484, 485, 486] (by decide +kernel) (by decide +kernel)
set_option maxRecDepth 20000 in
theorem gL_law_X2_worst : GoodIn wsL_law (wsV RL 44 RX2 yX2_worst wsX2_worst) := goodIn_app (goodIn_of _ (by decide +kernel)) ggL_law_X2_worst
set_option maxRecDepth 20000 in
theorem ggL_law_X3_worst : GoodIn wsL_law wsX3_worst := goodIn_r _ [278, 41, 193, 68, 69, 5, 70, 194, 195, 196, 197, 198, 199, 200, 201, 202, 203, 204, 205, 206, 207, 208, 209, 210, 211, 212, 213, 214, 215, 216, 217, 218, 119, 120, 121, 219, 220, 221, 222, 190, 191, 192, 223, 224, 225, 279, 280, 281, 282, 258, 259, 260, 261, 229, 230, 231, 453, 454, 455, 456, 457, 458, 459, 460, 461, 462, 463, 464, 465, 466, 467, 468] (by decide +kernel) (by decide +kernel)
set_option maxRecDepth 20000 in
theorem gL_law_X3_worst : GoodIn wsL_law (wsV RL 48 RX3 yX3_worst wsX3_worst) := goodIn_app (goodIn_of _ (by decide +kernel)) ggL_law_X3_worst
set_option maxRecDepth 20000 in
theorem ggL_law_X2_need : GoodIn wsL_law wsX2_need := goodIn_r _ [286, 15, 287, 56, 57, 2, 58, 447, 448, 449, 450, 451, 452, 469, 470, 471, 472, 473] (by decide +kernel) (by decide +kernel)
set_option maxRecDepth 20000 in
theorem gL_law_X2_need : GoodIn wsL_law (wsV RL 49 RX2 yX2_need wsX2_need) := goodIn_app (goodIn_of _ (by decide +kernel)) ggL_law_X2_need
set_option maxRecDepth 20000 in
theorem ggL_law_X3_need : GoodIn wsL_law wsX3_need := goodIn_r _ [291, 292, 41, 68, 69, 5, 70, 453, 454, 455, 456, 457, 458, 459, 460, 461, 462, 463, 464, 465, 466, 467, 468] (by decide +kernel) (by decide +kernel)
set_option maxRecDepth 20000 in
theorem gL_law_X3_need : GoodIn wsL_law (wsV RL 52 RX3 yX3_need wsX3_need) := goodIn_app (goodIn_of _ (by decide +kernel)) ggL_law_X3_need
set_option maxRecDepth 20000 in
theorem ggL_law_X2_cover : GoodIn wsL_law wsX2_cover := goodIn_r _ [296, 22, 132, 133, 134, 2, 135, 15, 52, 136, 137, 138, 139, 50, 51, 140, 141, 142, 21, 143, 144, 145, 146, 147, 148, 149, 150, 151, 152, 109, 110, 111, 153, 154, 155, 156, 113, 114, 157, 158, 159, 160, 161, 162, 163, 164, 165, 166, 167, 168, 297, 298, 299, 300, 301, 302, 303, 304, 305, 306, 307, 308, 309, 310, 311, 447, 448, 449, 450, 451, 452, 469, 470, 471, 472, 473, 474, 475, 476, 477, 478, 479, 480, 481, 482, 483, 484, 485, 486] (by decide +kernel) (by decide +kernel)
set_option maxRecDepth 20000 in
theorem gL_law_X2_cover : GoodIn wsL_law (wsV RL 53 RX2 yX2_cover wsX2_cover) := goodIn_app (goodIn_of _ (by decide +kernel)) ggL_law_X2_cover
set_option maxRecDepth 20000 in
theorem ggL_law_X3_cover : GoodIn wsL_law wsX3_cover := goodIn_r _ [315, 41, 194, 195, 196, 5, 197, 198, 199, 200, 201, 193, 202, 203, 204, 205, 206, 207, 208, 209, 210, 211, 212, 213, 214, 215, 216, 217, 218, 119, 120, 121, 219, 220, 221, 222, 190, 191, 192, 223, 224, 225, 316, 317, 318, 319, 320, 321, 322, 323, 187, 324, 325, 326, 327, 328, 329, 453, 454, 455, 456, 457, 458, 459, 460, 461, 462, 463, 464, 465, 466, 467, 468] (by decide +kernel) (by decide +kernel)
set_option maxRecDepth 20000 in
theorem gL_law_X3_cover : GoodIn wsL_law (wsV RL 56 RX3 yX3_cover wsX3_cover) := goodIn_app (goodIn_of _ (by decide +kernel)) ggL_law_X3_cover
set_option maxRecDepth 20000 in
theorem ggL_law_X2_poor : GoodIn wsL_law wsX2_poor := goodIn_r _ [333, 132, 133, 134, 2, 135, 22, 15, 52, 136, 137, 138, 139, 50, 51, 140, 141, 142, 21, 143, 144, 145, 146, 147, 148, 149, 150, 151, 152, 109, 110, 111, 153, 154, 155, 156, 113, 114, 157, 158, 159, 160, 161, 162, 163, 164, 334, 335, 336, 337, 287, 165, 166, 167, 168, 297, 298, 299, 300, 301, 302, 303, 304, 305, 306, 307, 308, 309, 310, 311, 87, 88, 89, 90, 91, 92, 93, 447, 448, 449, 450, 451, 452, 469, 470, 471, 472, 473, 474, 475, 476, 477, 478, 479, 480, 481, 482, 483, 484, 485, 486] (by decide +kernel) (by decide +kernel)
set_option maxRecDepth 20000 in
theorem gL_law_X2_poor : GoodIn wsL_law (wsV RL 57 RX2 yX2_poor wsX2_poor) := goodIn_app (goodIn_of _ (by decide +kernel)) ggL_law_X2_poor
set_option maxRecDepth 20000 in
theorem ggL_law_X3_poor : GoodIn wsL_law wsX3_poor := goodIn_r _ [341, 342, 343, 344, 5, 345, 41, 194, 195, 196, 197, 198, 199, 200, 201, 193, 202, 203, 204, 205, 206, 207, 208, 209, 210, 211, 212, 213, 214, 215, 216, 217, 218, 119, 120, 121, 219, 220, 221, 222, 190, 191, 192, 223, 224, 225, 316, 317, 318, 319, 320, 321, 322, 323, 187, 324, 325, 326, 327, 328, 329, 102, 103, 104, 453, 454, 455, 456, 457, 458, 459, 460, 461, 462, 463, 464, 465, 466, 467, 468] (by decide +kernel) (by decide +kernel)
set_option maxRecDepth 20000 in
theorem gL_law_X3_poor : GoodIn wsL_law (wsV RL 60 RX3 yX3_poor wsX3_poor) := goodIn_app (goodIn_of _ (by decide +kernel)) ggL_law_X3_poor
set_option maxRecDepth 20000 in
theorem ggL_law_X2_eighth : GoodIn wsL_law wsX2_eighth := goodIn_r _ [349, 22, 15, 50, 51, 83, 84, 85, 2, 86, 49, 132, 133, 134, 135, 52, 136, 137, 138, 139, 140, 141, 142, 21, 143, 144, 145, 146, 147, 148, 149, 150, 151, 152, 109, 110, 111, 153, 154, 155, 156, 113, 114, 157, 158, 159, 160, 161, 162, 163, 164, 165, 166, 167, 168, 301, 302, 303, 304, 305, 306, 307, 308, 447, 448, 449, 450, 451, 452, 469, 470, 471, 472, 473, 474, 475, 476, 477, 478, 479, 480, 481, 482, 483, 484, 485, 486] (by decide +kernel) (by decide +kernel)
set_option maxRecDepth 20000 in
theorem gL_law_X2_eighth : GoodIn wsL_law (wsV RL 61 RX2 yX2_eighth wsX2_eighth) := goodIn_app (goodIn_of _ (by decide +kernel)) ggL_law_X2_eighth
set_option maxRecDepth 20000 in
theorem ggL_law_X3_eighth : GoodIn wsL_law wsX3_eighth := goodIn_r _ [353, 41, 98, 99, 100, 5, 101, 68, 69, 70, 194, 195, 196, 197, 198, 199, 200, 201, 193, 202, 203, 204, 205, 206, 207, 208, 209, 210, 211, 212, 213, 214, 215, 216, 217, 218, 119, 120, 121, 219, 220, 221, 222, 190, 191, 192, 223, 224, 225, 320, 321, 322, 323, 187, 324, 325, 326, 453, 454, 455, 456, 457, 458, 459, 460, 461, 462, 463, 464, 465, 466, 467, 468] (by decide +kernel) (by decide +kernel)
set_option maxRecDepth 20000 in
theorem gL_law_X3_eighth : GoodIn wsL_law (wsV RL 64 RX3 yX3_eighth wsX3_eighth) := goodIn_app (goodIn_of _ (by decide +kernel)) ggL_law_X3_eighth
set_option maxRecDepth 20000 in
theorem ggL_law_X2_points : GoodIn wsL_law wsX2_points := goodIn_r _ [357, 22, 53, 54, 2, 55, 56, 57, 58, 132, 133, 134, 135, 15, 52, 136, 137, 138, 139, 50, 51, 140, 141, 142, 21, 143, 144, 145, 146, 147, 148, 149, 150, 151, 152, 109, 110, 111, 153, 154, 155, 156, 113, 114, 157, 158, 159, 160, 161, 162, 163, 164, 334, 335, 336, 337, 287, 165, 166, 167, 168, 297, 298, 299, 300, 301, 302, 303, 304, 305, 306, 307, 308, 309, 310, 311, 87, 88, 89, 90, 91, 92, 93, 447, 448, 449, 450, 451, 452, 469, 470, 471, 472, 473, 474, 475, 476, 477, 478, 479, 480, 481, 482, 483, 484, 485, 486] (by decide +kernel) (by decide +kernel)
set_option maxRecDepth 20000 in
theorem gL_law_X2_points : GoodIn wsL_law (wsV RL 65 RX2 yX2_points wsX2_points) := goodIn_app (goodIn_of _ (by decide +kernel)) ggL_law_X2_points
set_option maxRecDepth 20000 in
theorem ggL_law_X3_points : GoodIn wsL_law wsX3_points := goodIn_r _ [361, 63, 64, 5, 65, 66, 67, 68, 69, 70, 342, 343, 344, 345, 41, 194, 195, 196, 197, 198, 199, 200, 201, 193, 202, 203, 204, 205, 206, 207, 208, 209, 210, 211, 212, 213, 214, 215, 216, 217, 218, 119, 120, 121, 219, 220, 221, 222, 190, 191, 192, 223, 224, 225, 316, 317, 318, 319, 320, 321, 322, 323, 187, 324, 325, 326, 327, 328, 329, 102, 103, 104, 453, 454, 455, 456, 457, 458, 459, 460, 461, 462, 463, 464, 465, 466, 467, 468] (by decide +kernel) (by decide +kernel)
set_option maxRecDepth 20000 in
theorem gL_law_X3_points : GoodIn wsL_law (wsV RL 68 RX3 yX3_points wsX3_points) := goodIn_app (goodIn_of _ (by decide +kernel)) ggL_law_X3_points
set_option maxRecDepth 20000 in
theorem ggL_law_X2_helps : GoodIn wsL_law wsX2_helps := goodIn_r _ [365, 15, 49, 52, 287, 22, 87, 88, 89, 90, 91, 92, 93, 136, 137, 138, 2, 139, 50, 51, 140, 141, 142, 21, 143, 144, 145, 146, 147, 148, 149, 150, 151, 152, 109, 110, 111, 153, 154, 155, 156, 113, 114, 366, 367, 368, 369, 23, 370, 371, 372, 373, 157, 158, 159, 160, 161, 162, 163, 164, 165, 166, 167, 168, 301, 302, 303, 304, 305, 306, 307, 308, 309, 310, 311, 297, 298, 299, 300, 447, 448, 449, 450, 451, 452, 469, 470, 471, 472, 473, 474, 475, 476, 477, 478, 479, 480, 481, 482, 483, 484, 485, 486] (by decide +kernel) (by decide +kernel)
set_option maxRecDepth 20000 in
theorem gL_law_X2_helps : GoodIn wsL_law (wsV RL 69 RX2 yX2_helps wsX2_helps) := goodIn_app (goodIn_of _ (by decide +kernel)) ggL_law_X2_helps
set_option maxRecDepth 20000 in
theorem ggL_law_X3_helps : GoodIn wsL_law wsX3_helps := goodIn_r _ [377, 41, 378, 379, 380, 5, 381, 193, 202, 203, 204, 205, 206, 207, 208, 209, 210, 211, 212, 213, 214, 215, 216, 217, 218, 119, 120, 121, 219, 220, 221, 222, 190, 191, 192, 223, 224, 225, 320, 321, 322, 323, 187, 324, 325, 326, 327, 328, 329, 316, 317, 318, 319, 102, 103, 104, 453, 454, 455, 456, 457, 458, 459, 460, 461, 462, 463, 464, 465, 466, 467, 468] (by decide +kernel) (by decide +kernel)
set_option maxRecDepth 20000 in
theorem gL_law_X3_helps : GoodIn wsL_law (wsV RL 72 RX3 yX3_helps wsX3_helps) := goodIn_app (goodIn_of _ (by decide +kernel)) ggL_law_X3_helps
set_option maxRecDepth 20000 in
theorem ggL_law_X2_trim : GoodIn wsL_law wsX2_trim := goodIn_r _ [385, 22, 15, 52, 56, 57, 2, 58, 132, 133, 134, 135, 136, 137, 138, 139, 50, 51, 140, 141, 142, 21, 143, 144, 145, 146, 147, 148, 149, 150, 151, 152, 109, 110, 111, 153, 154, 155, 156, 113, 114, 157, 158, 159, 160, 161, 162, 163, 164, 165, 166, 167, 168, 87, 88, 89, 90, 91, 92, 93, 386, 387, 388, 389, 266, 267, 268, 269, 270, 271, 272, 273, 274, 176, 177, 178, 179, 83, 84, 85, 86, 49, 249, 250, 251, 252, 390, 391, 392, 393, 169, 170, 171, 172, 447, 448, 449, 450, 451, 452, 469, 470, 471, 472, 473, 474, 475, 476, 477, 478, 479, 480, 481, 482, 483, 484, 485, 486] (by decide +kernel) (by decide +kernel)
set_option maxRecDepth 20000 in
theorem gL_law_X2_trim : GoodIn wsL_law (wsV RL 73 RX2 yX2_trim wsX2_trim) := goodIn_app (goodIn_of _ (by decide +kernel)) ggL_law_X2_trim
set_option maxRecDepth 20000 in
theorem ggL_law_X3_trim : GoodIn wsL_law wsX3_trim := goodIn_r _ [397, 398, 41, 193, 68, 69, 5, 70, 194, 195, 196, 197, 198, 199, 200, 201, 202, 203, 204, 205, 206, 207, 208, 209, 210, 211, 212, 213, 214, 215, 216, 217, 218, 119, 120, 121, 219, 220, 221, 222, 190, 191, 192, 223, 224, 225, 279, 280, 281, 282, 258, 259, 260, 261, 229, 230, 231, 102, 103, 104, 453, 454, 455, 456, 457, 458, 459, 460, 461, 462, 463, 464, 465, 466, 467, 468] (by decide +kernel) (by decide +kernel)
set_option maxRecDepth 20000 in
theorem gL_law_X3_trim : GoodIn wsL_law (wsV RL 76 RX3 yX3_trim wsX3_trim) := goodIn_app (goodIn_of _ (by decide +kernel)) ggL_law_X3_trim
set_option maxRecDepth 20000 in
theorem ggL_law_X2_fewest : GoodIn wsL_law wsX2_fewest := goodIn_r _ [402, 15, 52, 56, 57, 2, 58, 87, 88, 89, 90, 91, 92, 93, 403, 404, 405, 406, 407, 408, 409, 410, 23, 136, 137, 138, 139, 50, 51, 140, 141, 142, 21, 143, 144, 145, 146, 147, 148, 149, 150, 151, 152, 109, 110, 111, 153, 154, 155, 156, 113, 114, 157, 158, 159, 160, 161, 162, 163, 164, 165, 166, 167, 168, 390, 391, 392, 393, 271, 272, 273, 274, 176, 177, 178, 179, 83, 84, 85, 86, 49, 249, 250, 251, 252, 169, 170, 171, 172, 447, 448, 449, 450, 451, 452, 469, 470, 471, 472, 473, 474, 475, 476, 477, 478, 479, 480, 481, 482, 483, 484, 485, 486] (by decide +kernel) (by decide +kernel)
set_option maxRecDepth 20000 in
theorem gL_law_X2_fewest : GoodIn wsL_law (wsV RL 77 RX2 yX2_fewest wsX2_fewest) := goodIn_app (goodIn_of _ (by decide +kernel)) ggL_law_X2_fewest
set_option maxRecDepth 20000 in
theorem ggL_law_X3_fewest : GoodIn wsL_law wsX3_fewest := goodIn_r _ [414, 398, 41, 68, 69, 5, 70, 102, 103, 104, 415, 416, 417, 418, 193, 198, 199, 200, 201, 202, 203, 204, 205, 206, 207, 208, 209, 210, 211, 212, 213, 214, 215, 216, 217, 218, 119, 120, 121, 219, 220, 221, 222, 190, 191, 192, 223, 224, 225, 279, 280, 281, 282, 258, 259, 260, 261, 229, 230, 231, 453, 454, 455, 456, 457, 458, 459, 460, 461, 462, 463, 464, 465, 466, 467, 468] (by decide +kernel) (by decide +kernel)
set_option maxRecDepth 20000 in
theorem gL_law_X3_fewest : GoodIn wsL_law (wsV RL 80 RX3 yX3_fewest wsX3_fewest) := goodIn_app (goodIn_of _ (by decide +kernel)) ggL_law_X3_fewest
set_option maxRecDepth 20000 in
theorem ggL_law_X2_image : GoodIn wsL_law wsX2_image := goodIn_r _ [422, 16, 17, 15, 18, 56, 57, 2, 58, 423, 424, 425, 14, 426, 29, 30, 31, 32, 33, 447, 448, 449, 450, 451, 452, 469, 470, 471, 472, 473] (by decide +kernel) (by decide +kernel)
set_option maxRecDepth 20000 in
theorem gL_law_X2_image : GoodIn wsL_law (wsV RL 81 RX2 yX2_image wsX2_image) := goodIn_app (goodIn_of _ (by decide +kernel)) ggL_law_X2_image
set_option maxRecDepth 20000 in
theorem ggL_law_X3_image : GoodIn wsL_law wsX3_image := goodIn_r _ [430, 42, 41, 44, 68, 69, 5, 70, 453, 454, 455, 456, 457, 458, 459, 460, 461, 462, 463, 464, 465, 466, 467, 468] (by decide +kernel) (by decide +kernel)
set_option maxRecDepth 20000 in
theorem gL_law_X3_image : GoodIn wsL_law (wsV RL 84 RX3 yX3_image wsX3_image) := goodIn_app (goodIn_of _ (by decide +kernel)) ggL_law_X3_image
set_option maxRecDepth 20000 in
theorem ggL_law_X2_restore : GoodIn wsL_law wsX2_restore := goodIn_r _ [434, 18, 15, 16, 17, 56, 57, 2, 58, 109, 110, 111, 423, 424, 425, 14, 426, 29, 30, 31, 32, 33, 447, 448, 449, 450, 451, 452, 469, 470, 471, 472, 473] (by decide +kernel) (by decide +kernel)
set_option maxRecDepth 20000 in
theorem gL_law_X2_restore : GoodIn wsL_law (wsV RL 85 RX2 yX2_restore wsX2_restore) := goodIn_app (goodIn_of _ (by decide +kernel)) ggL_law_X2_restore
set_option maxRecDepth 20000 in
theorem ggL_law_X3_restore : GoodIn wsL_law wsX3_restore := goodIn_r _ [438, 44, 41, 42, 68, 69, 5, 70, 453, 454, 455, 456, 457, 458, 459, 460, 461, 462, 463, 464, 465, 466, 467, 468] (by decide +kernel) (by decide +kernel)
set_option maxRecDepth 20000 in
theorem gL_law_X3_restore : GoodIn wsL_law (wsV RL 88 RX3 yX3_restore wsX3_restore) := goodIn_app (goodIn_of _ (by decide +kernel)) ggL_law_X3_restore
set_option maxRecDepth 20000 in
theorem ggL_law_X2_count : GoodIn wsL_law wsX2_count := goodIn_r _ [442, 15, 49, 52, 287, 22, 18, 87, 88, 89, 90, 91, 92, 93, 132, 133, 134, 2, 135, 136, 137, 138, 139, 50, 51, 140, 141, 142, 21, 143, 144, 145, 146, 147, 148, 149, 150, 151, 152, 109, 110, 111, 153, 154, 155, 156, 113, 114, 157, 158, 159, 160, 161, 162, 163, 164, 165, 166, 167, 168, 447, 448, 449, 450, 451, 452, 469, 470, 471, 472, 473, 474, 475, 476, 477, 478, 479, 480, 481, 482, 483, 484, 485, 486] (by decide +kernel) (by decide +kernel)
set_option maxRecDepth 20000 in
theorem gL_law_X2_count : GoodIn wsL_law (wsV RL 89 RX2 yX2_count wsX2_count) := goodIn_app (goodIn_of _ (by decide +kernel)) ggL_law_X2_count
set_option maxRecDepth 20000 in
theorem ggL_law_X3_count : GoodIn wsL_law wsX3_count := goodIn_r _ [446, 41, 44, 102, 103, 5, 104, 194, 195, 196, 197, 198, 199, 200, 201, 193, 202, 203, 204, 205, 206, 207, 208, 209, 210, 211, 212, 213, 214, 215, 216, 217, 218, 119, 120, 121, 219, 220, 221, 222, 190, 191, 192, 223, 224, 225, 453, 454, 455, 456, 457, 458, 459, 460, 461, 462, 463, 464, 465, 466, 467, 468] (by decide +kernel) (by decide +kernel)
set_option maxRecDepth 20000 in
theorem gL_law_X3_count : GoodIn wsL_law (wsV RL 92 RX3 yX3_count wsX3_count) := goodIn_app (goodIn_of _ (by decide +kernel)) ggL_law_X3_count
theorem dL_law_0 : decode cL_law 0 = .ok (.new 7, 3) := by decide +kernel
theorem dL_law_3 : decode cL_law 3 = .ok (.dup, 1) := by decide +kernel
theorem dL_law_4 : decode cL_law 4 = .ok (.invokespecial 9, 3) := by decide +kernel
theorem dL_law_7 : decode cL_law 7 = .ok (.astore_n 1, 1) := by decide +kernel
theorem dL_law_8 : decode cL_law 8 = .ok (.new 10, 3) := by decide +kernel
theorem dL_law_11 : decode cL_law 11 = .ok (.dup, 1) := by decide +kernel
theorem dL_law_12 : decode cL_law 12 = .ok (.invokespecial 12, 3) := by decide +kernel
theorem dL_law_15 : decode cL_law 15 = .ok (.astore_n 2, 1) := by decide +kernel
theorem dL_law_16 : decode cL_law 16 = .ok (.iconst 0, 1) := by decide +kernel
theorem dL_law_17 : decode cL_law 17 = .ok (.istore_n 3, 1) := by decide +kernel
theorem dL_law_18 : decode cL_law 18 = .ok (.iload_n 3, 1) := by decide +kernel
theorem dL_law_19 : decode cL_law 19 = .ok (.aload_n 0, 1) := by decide +kernel
theorem dL_law_20 : decode cL_law 20 = .ok (.arraylength, 1) := by decide +kernel
theorem dL_law_21 : decode cL_law 21 = .ok (.iconst 3, 1) := by decide +kernel
theorem dL_law_22 : decode cL_law 22 = .ok (.isub, 1) := by decide +kernel
theorem dL_law_23 : decode cL_law 23 = .ok (.if_icmp .gt 587, 3) := by decide +kernel
theorem dL_law_26 : decode cL_law 26 = .ok (.aload_n 0, 1) := by decide +kernel
theorem dL_law_27 : decode cL_law 27 = .ok (.iload_n 3, 1) := by decide +kernel
theorem dL_law_28 : decode cL_law 28 = .ok (.iaload, 1) := by decide +kernel
theorem dL_law_29 : decode cL_law 29 = .ok (.bipush 31, 2) := by decide +kernel
theorem dL_law_31 : decode cL_law 31 = .ok (.iand, 1) := by decide +kernel
theorem dL_law_32 : decode cL_law 32 = .ok (.tableswitch 572 0 18 #[92, 125, 138, 171, 204, 238, 272, 306, 329, 352, 365, 378, 401, 434, 447, 470, 503, 526, 549], 92) := by decide +kernel
theorem dL_law_124 : decode cL_law 124 = .ok (.aload_n 1, 1) := by decide +kernel
theorem dL_law_125 : decode cL_law 125 = .ok (.aload_n 0, 1) := by decide +kernel
theorem dL_law_126 : decode cL_law 126 = .ok (.iload_n 3, 1) := by decide +kernel
theorem dL_law_127 : decode cL_law 127 = .ok (.iconst 1, 1) := by decide +kernel
theorem dL_law_128 : decode cL_law 128 = .ok (.iadd, 1) := by decide +kernel
theorem dL_law_129 : decode cL_law 129 = .ok (.iaload, 1) := by decide +kernel
theorem dL_law_130 : decode cL_law 130 = .ok (.aload_n 0, 1) := by decide +kernel
theorem dL_law_131 : decode cL_law 131 = .ok (.iload_n 3, 1) := by decide +kernel
theorem dL_law_132 : decode cL_law 132 = .ok (.iconst 2, 1) := by decide +kernel
theorem dL_law_133 : decode cL_law 133 = .ok (.iadd, 1) := by decide +kernel
theorem dL_law_134 : decode cL_law 134 = .ok (.iaload, 1) := by decide +kernel
theorem dL_law_135 : decode cL_law 135 = .ok (.invokevirtual 13, 3) := by decide +kernel
theorem dL_law_138 : decode cL_law 138 = .ok (.aload_n 2, 1) := by decide +kernel
theorem dL_law_139 : decode cL_law 139 = .ok (.aload_n 0, 1) := by decide +kernel
theorem dL_law_140 : decode cL_law 140 = .ok (.iload_n 3, 1) := by decide +kernel
theorem dL_law_141 : decode cL_law 141 = .ok (.iconst 1, 1) := by decide +kernel
theorem dL_law_142 : decode cL_law 142 = .ok (.iadd, 1) := by decide +kernel
theorem dL_law_143 : decode cL_law 143 = .ok (.iaload, 1) := by decide +kernel
theorem dL_law_144 : decode cL_law 144 = .ok (.aload_n 0, 1) := by decide +kernel
theorem dL_law_145 : decode cL_law 145 = .ok (.iload_n 3, 1) := by decide +kernel
theorem dL_law_146 : decode cL_law 146 = .ok (.iconst 2, 1) := by decide +kernel
theorem dL_law_147 : decode cL_law 147 = .ok (.iadd, 1) := by decide +kernel
theorem dL_law_148 : decode cL_law 148 = .ok (.iaload, 1) := by decide +kernel
theorem dL_law_149 : decode cL_law 149 = .ok (.invokevirtual 17, 3) := by decide +kernel
theorem dL_law_152 : decode cL_law 152 = .ok (.if_icmp .eq 452, 3) := by decide +kernel
theorem dL_law_155 : decode cL_law 155 = .ok (.iconst 0, 1) := by decide +kernel
theorem dL_law_156 : decode cL_law 156 = .ok (.ireturn, 1) := by decide +kernel
theorem dL_law_157 : decode cL_law 157 = .ok (.aload_n 1, 1) := by decide +kernel
theorem dL_law_158 : decode cL_law 158 = .ok (.invokevirtual 18, 3) := by decide +kernel
theorem dL_law_161 : decode cL_law 161 = .ok (.aload_n 2, 1) := by decide +kernel
theorem dL_law_162 : decode cL_law 162 = .ok (.invokevirtual 22, 3) := by decide +kernel
theorem dL_law_165 : decode cL_law 165 = .ok (.if_icmp .eq 439, 3) := by decide +kernel
theorem dL_law_168 : decode cL_law 168 = .ok (.iconst 0, 1) := by decide +kernel
theorem dL_law_169 : decode cL_law 169 = .ok (.ireturn, 1) := by decide +kernel
theorem dL_law_170 : decode cL_law 170 = .ok (.aload_n 1, 1) := by decide +kernel
theorem dL_law_171 : decode cL_law 171 = .ok (.aload_n 0, 1) := by decide +kernel
theorem dL_law_172 : decode cL_law 172 = .ok (.iload_n 3, 1) := by decide +kernel
theorem dL_law_173 : decode cL_law 173 = .ok (.iconst 1, 1) := by decide +kernel
theorem dL_law_174 : decode cL_law 174 = .ok (.iadd, 1) := by decide +kernel
theorem dL_law_175 : decode cL_law 175 = .ok (.iaload, 1) := by decide +kernel
theorem dL_law_176 : decode cL_law 176 = .ok (.aload_n 0, 1) := by decide +kernel
theorem dL_law_177 : decode cL_law 177 = .ok (.iload_n 3, 1) := by decide +kernel
theorem dL_law_178 : decode cL_law 178 = .ok (.iconst 2, 1) := by decide +kernel
theorem dL_law_179 : decode cL_law 179 = .ok (.iadd, 1) := by decide +kernel
theorem dL_law_180 : decode cL_law 180 = .ok (.iaload, 1) := by decide +kernel
theorem dL_law_181 : decode cL_law 181 = .ok (.invokevirtual 23, 3) := by decide +kernel
theorem dL_law_184 : decode cL_law 184 = .ok (.aload_n 2, 1) := by decide +kernel
theorem dL_law_185 : decode cL_law 185 = .ok (.aload_n 0, 1) := by decide +kernel
theorem dL_law_186 : decode cL_law 186 = .ok (.iload_n 3, 1) := by decide +kernel
theorem dL_law_187 : decode cL_law 187 = .ok (.iconst 1, 1) := by decide +kernel
theorem dL_law_188 : decode cL_law 188 = .ok (.iadd, 1) := by decide +kernel
theorem dL_law_189 : decode cL_law 189 = .ok (.iaload, 1) := by decide +kernel
theorem dL_law_190 : decode cL_law 190 = .ok (.aload_n 0, 1) := by decide +kernel
theorem dL_law_191 : decode cL_law 191 = .ok (.iload_n 3, 1) := by decide +kernel
theorem dL_law_192 : decode cL_law 192 = .ok (.iconst 2, 1) := by decide +kernel
theorem dL_law_193 : decode cL_law 193 = .ok (.iadd, 1) := by decide +kernel
theorem dL_law_194 : decode cL_law 194 = .ok (.iaload, 1) := by decide +kernel
theorem dL_law_195 : decode cL_law 195 = .ok (.invokevirtual 26, 3) := by decide +kernel
theorem dL_law_198 : decode cL_law 198 = .ok (.if_icmp .eq 406, 3) := by decide +kernel
theorem dL_law_201 : decode cL_law 201 = .ok (.iconst 0, 1) := by decide +kernel
theorem dL_law_202 : decode cL_law 202 = .ok (.ireturn, 1) := by decide +kernel
theorem dL_law_203 : decode cL_law 203 = .ok (.aload_n 1, 1) := by decide +kernel
theorem dL_law_204 : decode cL_law 204 = .ok (.aload_n 0, 1) := by decide +kernel
theorem dL_law_205 : decode cL_law 205 = .ok (.iload_n 3, 1) := by decide +kernel
theorem dL_law_206 : decode cL_law 206 = .ok (.iconst 1, 1) := by decide +kernel
theorem dL_law_207 : decode cL_law 207 = .ok (.iadd, 1) := by decide +kernel
theorem dL_law_208 : decode cL_law 208 = .ok (.iaload, 1) := by decide +kernel
theorem dL_law_209 : decode cL_law 209 = .ok (.aload_n 0, 1) := by decide +kernel
theorem dL_law_210 : decode cL_law 210 = .ok (.iload_n 3, 1) := by decide +kernel
theorem dL_law_211 : decode cL_law 211 = .ok (.iconst 2, 1) := by decide +kernel
theorem dL_law_212 : decode cL_law 212 = .ok (.iadd, 1) := by decide +kernel
theorem dL_law_213 : decode cL_law 213 = .ok (.iaload, 1) := by decide +kernel
theorem dL_law_214 : decode cL_law 214 = .ok (.invokevirtual 27, 3) := by decide +kernel
theorem dL_law_217 : decode cL_law 217 = .ok (.aload_n 2, 1) := by decide +kernel
theorem dL_law_218 : decode cL_law 218 = .ok (.aload_n 0, 1) := by decide +kernel
theorem dL_law_219 : decode cL_law 219 = .ok (.iload_n 3, 1) := by decide +kernel
theorem dL_law_220 : decode cL_law 220 = .ok (.iconst 1, 1) := by decide +kernel
theorem dL_law_221 : decode cL_law 221 = .ok (.iadd, 1) := by decide +kernel
theorem dL_law_222 : decode cL_law 222 = .ok (.iaload, 1) := by decide +kernel
theorem dL_law_223 : decode cL_law 223 = .ok (.aload_n 0, 1) := by decide +kernel
theorem dL_law_224 : decode cL_law 224 = .ok (.iload_n 3, 1) := by decide +kernel
theorem dL_law_225 : decode cL_law 225 = .ok (.iconst 2, 1) := by decide +kernel
theorem dL_law_226 : decode cL_law 226 = .ok (.iadd, 1) := by decide +kernel
theorem dL_law_227 : decode cL_law 227 = .ok (.iaload, 1) := by decide +kernel
theorem dL_law_228 : decode cL_law 228 = .ok (.invokevirtual 30, 3) := by decide +kernel
theorem dL_law_231 : decode cL_law 231 = .ok (.if_icmp .eq 373, 3) := by decide +kernel
theorem dL_law_234 : decode cL_law 234 = .ok (.iconst 0, 1) := by decide +kernel
theorem dL_law_235 : decode cL_law 235 = .ok (.ireturn, 1) := by decide +kernel
theorem dL_law_236 : decode cL_law 236 = .ok (.aload_n 1, 1) := by decide +kernel
theorem dL_law_237 : decode cL_law 237 = .ok (.aload_n 0, 1) := by decide +kernel
theorem dL_law_238 : decode cL_law 238 = .ok (.iload_n 3, 1) := by decide +kernel
theorem dL_law_239 : decode cL_law 239 = .ok (.iconst 1, 1) := by decide +kernel
theorem dL_law_240 : decode cL_law 240 = .ok (.iadd, 1) := by decide +kernel
theorem dL_law_241 : decode cL_law 241 = .ok (.iaload, 1) := by decide +kernel
theorem dL_law_242 : decode cL_law 242 = .ok (.aload_n 0, 1) := by decide +kernel
theorem dL_law_243 : decode cL_law 243 = .ok (.iload_n 3, 1) := by decide +kernel
theorem dL_law_244 : decode cL_law 244 = .ok (.iconst 2, 1) := by decide +kernel
theorem dL_law_245 : decode cL_law 245 = .ok (.iadd, 1) := by decide +kernel
theorem dL_law_246 : decode cL_law 246 = .ok (.iaload, 1) := by decide +kernel
theorem dL_law_247 : decode cL_law 247 = .ok (.invokevirtual 31, 3) := by decide +kernel
theorem dL_law_250 : decode cL_law 250 = .ok (.aload_n 2, 1) := by decide +kernel
theorem dL_law_251 : decode cL_law 251 = .ok (.aload_n 0, 1) := by decide +kernel
theorem dL_law_252 : decode cL_law 252 = .ok (.iload_n 3, 1) := by decide +kernel
theorem dL_law_253 : decode cL_law 253 = .ok (.iconst 1, 1) := by decide +kernel
theorem dL_law_254 : decode cL_law 254 = .ok (.iadd, 1) := by decide +kernel
theorem dL_law_255 : decode cL_law 255 = .ok (.iaload, 1) := by decide +kernel
theorem dL_law_256 : decode cL_law 256 = .ok (.aload_n 0, 1) := by decide +kernel
theorem dL_law_257 : decode cL_law 257 = .ok (.iload_n 3, 1) := by decide +kernel
theorem dL_law_258 : decode cL_law 258 = .ok (.iconst 2, 1) := by decide +kernel
theorem dL_law_259 : decode cL_law 259 = .ok (.iadd, 1) := by decide +kernel
theorem dL_law_260 : decode cL_law 260 = .ok (.iaload, 1) := by decide +kernel
theorem dL_law_261 : decode cL_law 261 = .ok (.invokevirtual 35, 3) := by decide +kernel
theorem dL_law_264 : decode cL_law 264 = .ok (.lcmp, 1) := by decide +kernel
theorem dL_law_265 : decode cL_law 265 = .ok (.ifCond .eq 339, 3) := by decide +kernel
theorem dL_law_268 : decode cL_law 268 = .ok (.iconst 0, 1) := by decide +kernel
theorem dL_law_269 : decode cL_law 269 = .ok (.ireturn, 1) := by decide +kernel
theorem dL_law_270 : decode cL_law 270 = .ok (.aload_n 1, 1) := by decide +kernel
theorem dL_law_271 : decode cL_law 271 = .ok (.aload_n 0, 1) := by decide +kernel
theorem dL_law_272 : decode cL_law 272 = .ok (.iload_n 3, 1) := by decide +kernel
theorem dL_law_273 : decode cL_law 273 = .ok (.iconst 1, 1) := by decide +kernel
theorem dL_law_274 : decode cL_law 274 = .ok (.iadd, 1) := by decide +kernel
theorem dL_law_275 : decode cL_law 275 = .ok (.iaload, 1) := by decide +kernel
theorem dL_law_276 : decode cL_law 276 = .ok (.aload_n 0, 1) := by decide +kernel
theorem dL_law_277 : decode cL_law 277 = .ok (.iload_n 3, 1) := by decide +kernel
theorem dL_law_278 : decode cL_law 278 = .ok (.iconst 2, 1) := by decide +kernel
theorem dL_law_279 : decode cL_law 279 = .ok (.iadd, 1) := by decide +kernel
theorem dL_law_280 : decode cL_law 280 = .ok (.iaload, 1) := by decide +kernel
theorem dL_law_281 : decode cL_law 281 = .ok (.invokevirtual 36, 3) := by decide +kernel
theorem dL_law_284 : decode cL_law 284 = .ok (.aload_n 2, 1) := by decide +kernel
theorem dL_law_285 : decode cL_law 285 = .ok (.aload_n 0, 1) := by decide +kernel
theorem dL_law_286 : decode cL_law 286 = .ok (.iload_n 3, 1) := by decide +kernel
theorem dL_law_287 : decode cL_law 287 = .ok (.iconst 1, 1) := by decide +kernel
theorem dL_law_288 : decode cL_law 288 = .ok (.iadd, 1) := by decide +kernel
theorem dL_law_289 : decode cL_law 289 = .ok (.iaload, 1) := by decide +kernel
theorem dL_law_290 : decode cL_law 290 = .ok (.aload_n 0, 1) := by decide +kernel
theorem dL_law_291 : decode cL_law 291 = .ok (.iload_n 3, 1) := by decide +kernel
theorem dL_law_292 : decode cL_law 292 = .ok (.iconst 2, 1) := by decide +kernel
theorem dL_law_293 : decode cL_law 293 = .ok (.iadd, 1) := by decide +kernel
theorem dL_law_294 : decode cL_law 294 = .ok (.iaload, 1) := by decide +kernel
theorem dL_law_295 : decode cL_law 295 = .ok (.invokevirtual 39, 3) := by decide +kernel
theorem dL_law_298 : decode cL_law 298 = .ok (.lcmp, 1) := by decide +kernel
theorem dL_law_299 : decode cL_law 299 = .ok (.ifCond .eq 305, 3) := by decide +kernel
theorem dL_law_302 : decode cL_law 302 = .ok (.iconst 0, 1) := by decide +kernel
theorem dL_law_303 : decode cL_law 303 = .ok (.ireturn, 1) := by decide +kernel
theorem dL_law_304 : decode cL_law 304 = .ok (.aload_n 1, 1) := by decide +kernel
theorem dL_law_305 : decode cL_law 305 = .ok (.aload_n 0, 1) := by decide +kernel
theorem dL_law_306 : decode cL_law 306 = .ok (.iload_n 3, 1) := by decide +kernel
theorem dL_law_307 : decode cL_law 307 = .ok (.iconst 1, 1) := by decide +kernel
theorem dL_law_308 : decode cL_law 308 = .ok (.iadd, 1) := by decide +kernel
theorem dL_law_309 : decode cL_law 309 = .ok (.iaload, 1) := by decide +kernel
theorem dL_law_310 : decode cL_law 310 = .ok (.aload_n 0, 1) := by decide +kernel
theorem dL_law_311 : decode cL_law 311 = .ok (.iload_n 3, 1) := by decide +kernel
theorem dL_law_312 : decode cL_law 312 = .ok (.iconst 2, 1) := by decide +kernel
theorem dL_law_313 : decode cL_law 313 = .ok (.iadd, 1) := by decide +kernel
theorem dL_law_314 : decode cL_law 314 = .ok (.iaload, 1) := by decide +kernel
theorem dL_law_315 : decode cL_law 315 = .ok (.invokevirtual 40, 3) := by decide +kernel
theorem dL_law_318 : decode cL_law 318 = .ok (.aload_n 2, 1) := by decide +kernel
theorem dL_law_319 : decode cL_law 319 = .ok (.aload_n 0, 1) := by decide +kernel
theorem dL_law_320 : decode cL_law 320 = .ok (.iload_n 3, 1) := by decide +kernel
theorem dL_law_321 : decode cL_law 321 = .ok (.iconst 1, 1) := by decide +kernel
theorem dL_law_322 : decode cL_law 322 = .ok (.iadd, 1) := by decide +kernel
theorem dL_law_323 : decode cL_law 323 = .ok (.iaload, 1) := by decide +kernel
theorem dL_law_324 : decode cL_law 324 = .ok (.aload_n 0, 1) := by decide +kernel
theorem dL_law_325 : decode cL_law 325 = .ok (.iload_n 3, 1) := by decide +kernel
theorem dL_law_326 : decode cL_law 326 = .ok (.iconst 2, 1) := by decide +kernel
theorem dL_law_327 : decode cL_law 327 = .ok (.iadd, 1) := by decide +kernel
theorem dL_law_328 : decode cL_law 328 = .ok (.iaload, 1) := by decide +kernel
theorem dL_law_329 : decode cL_law 329 = .ok (.invokevirtual 43, 3) := by decide +kernel
theorem dL_law_332 : decode cL_law 332 = .ok (.lcmp, 1) := by decide +kernel
theorem dL_law_333 : decode cL_law 333 = .ok (.ifCond .eq 271, 3) := by decide +kernel
theorem dL_law_336 : decode cL_law 336 = .ok (.iconst 0, 1) := by decide +kernel
theorem dL_law_337 : decode cL_law 337 = .ok (.ireturn, 1) := by decide +kernel
theorem dL_law_338 : decode cL_law 338 = .ok (.aload_n 1, 1) := by decide +kernel
theorem dL_law_339 : decode cL_law 339 = .ok (.aload_n 0, 1) := by decide +kernel
theorem dL_law_340 : decode cL_law 340 = .ok (.iload_n 3, 1) := by decide +kernel
theorem dL_law_341 : decode cL_law 341 = .ok (.iconst 1, 1) := by decide +kernel
theorem dL_law_342 : decode cL_law 342 = .ok (.iadd, 1) := by decide +kernel
theorem dL_law_343 : decode cL_law 343 = .ok (.iaload, 1) := by decide +kernel
theorem dL_law_344 : decode cL_law 344 = .ok (.invokevirtual 44, 3) := by decide +kernel
theorem dL_law_347 : decode cL_law 347 = .ok (.aload_n 2, 1) := by decide +kernel
theorem dL_law_348 : decode cL_law 348 = .ok (.aload_n 0, 1) := by decide +kernel
theorem dL_law_349 : decode cL_law 349 = .ok (.iload_n 3, 1) := by decide +kernel
theorem dL_law_350 : decode cL_law 350 = .ok (.iconst 1, 1) := by decide +kernel
theorem dL_law_351 : decode cL_law 351 = .ok (.iadd, 1) := by decide +kernel
theorem dL_law_352 : decode cL_law 352 = .ok (.iaload, 1) := by decide +kernel
theorem dL_law_353 : decode cL_law 353 = .ok (.invokevirtual 48, 3) := by decide +kernel
theorem dL_law_356 : decode cL_law 356 = .ok (.if_icmp .eq 248, 3) := by decide +kernel
theorem dL_law_359 : decode cL_law 359 = .ok (.iconst 0, 1) := by decide +kernel
theorem dL_law_360 : decode cL_law 360 = .ok (.ireturn, 1) := by decide +kernel
theorem dL_law_361 : decode cL_law 361 = .ok (.aload_n 1, 1) := by decide +kernel
theorem dL_law_362 : decode cL_law 362 = .ok (.aload_n 0, 1) := by decide +kernel
theorem dL_law_363 : decode cL_law 363 = .ok (.iload_n 3, 1) := by decide +kernel
theorem dL_law_364 : decode cL_law 364 = .ok (.iconst 1, 1) := by decide +kernel
theorem dL_law_365 : decode cL_law 365 = .ok (.iadd, 1) := by decide +kernel
theorem dL_law_366 : decode cL_law 366 = .ok (.iaload, 1) := by decide +kernel
theorem dL_law_367 : decode cL_law 367 = .ok (.invokevirtual 49, 3) := by decide +kernel
theorem dL_law_370 : decode cL_law 370 = .ok (.aload_n 2, 1) := by decide +kernel
theorem dL_law_371 : decode cL_law 371 = .ok (.aload_n 0, 1) := by decide +kernel
theorem dL_law_372 : decode cL_law 372 = .ok (.iload_n 3, 1) := by decide +kernel
theorem dL_law_373 : decode cL_law 373 = .ok (.iconst 1, 1) := by decide +kernel
theorem dL_law_374 : decode cL_law 374 = .ok (.iadd, 1) := by decide +kernel
theorem dL_law_375 : decode cL_law 375 = .ok (.iaload, 1) := by decide +kernel
theorem dL_law_376 : decode cL_law 376 = .ok (.invokevirtual 52, 3) := by decide +kernel
theorem dL_law_379 : decode cL_law 379 = .ok (.if_icmp .eq 225, 3) := by decide +kernel
theorem dL_law_382 : decode cL_law 382 = .ok (.iconst 0, 1) := by decide +kernel
theorem dL_law_383 : decode cL_law 383 = .ok (.ireturn, 1) := by decide +kernel
theorem dL_law_384 : decode cL_law 384 = .ok (.aload_n 1, 1) := by decide +kernel
theorem dL_law_385 : decode cL_law 385 = .ok (.invokevirtual 53, 3) := by decide +kernel
theorem dL_law_388 : decode cL_law 388 = .ok (.aload_n 2, 1) := by decide +kernel
theorem dL_law_389 : decode cL_law 389 = .ok (.invokevirtual 56, 3) := by decide +kernel
theorem dL_law_392 : decode cL_law 392 = .ok (.if_icmp .eq 212, 3) := by decide +kernel
theorem dL_law_395 : decode cL_law 395 = .ok (.iconst 0, 1) := by decide +kernel
theorem dL_law_396 : decode cL_law 396 = .ok (.ireturn, 1) := by decide +kernel
theorem dL_law_397 : decode cL_law 397 = .ok (.aload_n 1, 1) := by decide +kernel
theorem dL_law_398 : decode cL_law 398 = .ok (.invokevirtual 57, 3) := by decide +kernel
theorem dL_law_401 : decode cL_law 401 = .ok (.aload_n 2, 1) := by decide +kernel
theorem dL_law_402 : decode cL_law 402 = .ok (.invokevirtual 60, 3) := by decide +kernel
theorem dL_law_405 : decode cL_law 405 = .ok (.if_icmp .eq 199, 3) := by decide +kernel
theorem dL_law_408 : decode cL_law 408 = .ok (.iconst 0, 1) := by decide +kernel
theorem dL_law_409 : decode cL_law 409 = .ok (.ireturn, 1) := by decide +kernel
theorem dL_law_410 : decode cL_law 410 = .ok (.aload_n 1, 1) := by decide +kernel
theorem dL_law_411 : decode cL_law 411 = .ok (.aload_n 0, 1) := by decide +kernel
theorem dL_law_412 : decode cL_law 412 = .ok (.iload_n 3, 1) := by decide +kernel
theorem dL_law_413 : decode cL_law 413 = .ok (.iconst 1, 1) := by decide +kernel
theorem dL_law_414 : decode cL_law 414 = .ok (.iadd, 1) := by decide +kernel
theorem dL_law_415 : decode cL_law 415 = .ok (.iaload, 1) := by decide +kernel
theorem dL_law_416 : decode cL_law 416 = .ok (.invokevirtual 61, 3) := by decide +kernel
theorem dL_law_419 : decode cL_law 419 = .ok (.aload_n 2, 1) := by decide +kernel
theorem dL_law_420 : decode cL_law 420 = .ok (.aload_n 0, 1) := by decide +kernel
theorem dL_law_421 : decode cL_law 421 = .ok (.iload_n 3, 1) := by decide +kernel
theorem dL_law_422 : decode cL_law 422 = .ok (.iconst 1, 1) := by decide +kernel
theorem dL_law_423 : decode cL_law 423 = .ok (.iadd, 1) := by decide +kernel
theorem dL_law_424 : decode cL_law 424 = .ok (.iaload, 1) := by decide +kernel
theorem dL_law_425 : decode cL_law 425 = .ok (.invokevirtual 64, 3) := by decide +kernel
theorem dL_law_428 : decode cL_law 428 = .ok (.if_icmp .eq 176, 3) := by decide +kernel
theorem dL_law_431 : decode cL_law 431 = .ok (.iconst 0, 1) := by decide +kernel
theorem dL_law_432 : decode cL_law 432 = .ok (.ireturn, 1) := by decide +kernel
theorem dL_law_433 : decode cL_law 433 = .ok (.aload_n 1, 1) := by decide +kernel
theorem dL_law_434 : decode cL_law 434 = .ok (.aload_n 0, 1) := by decide +kernel
theorem dL_law_435 : decode cL_law 435 = .ok (.iload_n 3, 1) := by decide +kernel
theorem dL_law_436 : decode cL_law 436 = .ok (.iconst 1, 1) := by decide +kernel
theorem dL_law_437 : decode cL_law 437 = .ok (.iadd, 1) := by decide +kernel
theorem dL_law_438 : decode cL_law 438 = .ok (.iaload, 1) := by decide +kernel
theorem dL_law_439 : decode cL_law 439 = .ok (.aload_n 0, 1) := by decide +kernel
theorem dL_law_440 : decode cL_law 440 = .ok (.iload_n 3, 1) := by decide +kernel
theorem dL_law_441 : decode cL_law 441 = .ok (.iconst 2, 1) := by decide +kernel
theorem dL_law_442 : decode cL_law 442 = .ok (.iadd, 1) := by decide +kernel
theorem dL_law_443 : decode cL_law 443 = .ok (.iaload, 1) := by decide +kernel
theorem dL_law_444 : decode cL_law 444 = .ok (.invokevirtual 65, 3) := by decide +kernel
theorem dL_law_447 : decode cL_law 447 = .ok (.aload_n 2, 1) := by decide +kernel
theorem dL_law_448 : decode cL_law 448 = .ok (.aload_n 0, 1) := by decide +kernel
theorem dL_law_449 : decode cL_law 449 = .ok (.iload_n 3, 1) := by decide +kernel
theorem dL_law_450 : decode cL_law 450 = .ok (.iconst 1, 1) := by decide +kernel
theorem dL_law_451 : decode cL_law 451 = .ok (.iadd, 1) := by decide +kernel
theorem dL_law_452 : decode cL_law 452 = .ok (.iaload, 1) := by decide +kernel
theorem dL_law_453 : decode cL_law 453 = .ok (.aload_n 0, 1) := by decide +kernel
theorem dL_law_454 : decode cL_law 454 = .ok (.iload_n 3, 1) := by decide +kernel
theorem dL_law_455 : decode cL_law 455 = .ok (.iconst 2, 1) := by decide +kernel
theorem dL_law_456 : decode cL_law 456 = .ok (.iadd, 1) := by decide +kernel
theorem dL_law_457 : decode cL_law 457 = .ok (.iaload, 1) := by decide +kernel
theorem dL_law_458 : decode cL_law 458 = .ok (.invokevirtual 68, 3) := by decide +kernel
theorem dL_law_461 : decode cL_law 461 = .ok (.if_icmp .eq 143, 3) := by decide +kernel
theorem dL_law_464 : decode cL_law 464 = .ok (.iconst 0, 1) := by decide +kernel
theorem dL_law_465 : decode cL_law 465 = .ok (.ireturn, 1) := by decide +kernel
theorem dL_law_466 : decode cL_law 466 = .ok (.aload_n 1, 1) := by decide +kernel
theorem dL_law_467 : decode cL_law 467 = .ok (.invokevirtual 69, 3) := by decide +kernel
theorem dL_law_470 : decode cL_law 470 = .ok (.aload_n 2, 1) := by decide +kernel
theorem dL_law_471 : decode cL_law 471 = .ok (.invokevirtual 72, 3) := by decide +kernel
theorem dL_law_474 : decode cL_law 474 = .ok (.if_icmp .eq 130, 3) := by decide +kernel
theorem dL_law_477 : decode cL_law 477 = .ok (.iconst 0, 1) := by decide +kernel
theorem dL_law_478 : decode cL_law 478 = .ok (.ireturn, 1) := by decide +kernel
theorem dL_law_479 : decode cL_law 479 = .ok (.aload_n 1, 1) := by decide +kernel
theorem dL_law_480 : decode cL_law 480 = .ok (.aload_n 0, 1) := by decide +kernel
theorem dL_law_481 : decode cL_law 481 = .ok (.iload_n 3, 1) := by decide +kernel
theorem dL_law_482 : decode cL_law 482 = .ok (.iconst 1, 1) := by decide +kernel
theorem dL_law_483 : decode cL_law 483 = .ok (.iadd, 1) := by decide +kernel
theorem dL_law_484 : decode cL_law 484 = .ok (.iaload, 1) := by decide +kernel
theorem dL_law_485 : decode cL_law 485 = .ok (.invokevirtual 73, 3) := by decide +kernel
theorem dL_law_488 : decode cL_law 488 = .ok (.aload_n 2, 1) := by decide +kernel
theorem dL_law_489 : decode cL_law 489 = .ok (.aload_n 0, 1) := by decide +kernel
theorem dL_law_490 : decode cL_law 490 = .ok (.iload_n 3, 1) := by decide +kernel
theorem dL_law_491 : decode cL_law 491 = .ok (.iconst 1, 1) := by decide +kernel
theorem dL_law_492 : decode cL_law 492 = .ok (.iadd, 1) := by decide +kernel
theorem dL_law_493 : decode cL_law 493 = .ok (.iaload, 1) := by decide +kernel
theorem dL_law_494 : decode cL_law 494 = .ok (.invokevirtual 76, 3) := by decide +kernel
theorem dL_law_497 : decode cL_law 497 = .ok (.if_icmp .eq 107, 3) := by decide +kernel
theorem dL_law_500 : decode cL_law 500 = .ok (.iconst 0, 1) := by decide +kernel
theorem dL_law_501 : decode cL_law 501 = .ok (.ireturn, 1) := by decide +kernel
theorem dL_law_502 : decode cL_law 502 = .ok (.aload_n 1, 1) := by decide +kernel
theorem dL_law_503 : decode cL_law 503 = .ok (.aload_n 0, 1) := by decide +kernel
theorem dL_law_504 : decode cL_law 504 = .ok (.iload_n 3, 1) := by decide +kernel
theorem dL_law_505 : decode cL_law 505 = .ok (.iconst 1, 1) := by decide +kernel
theorem dL_law_506 : decode cL_law 506 = .ok (.iadd, 1) := by decide +kernel
theorem dL_law_507 : decode cL_law 507 = .ok (.iaload, 1) := by decide +kernel
theorem dL_law_508 : decode cL_law 508 = .ok (.aload_n 0, 1) := by decide +kernel
theorem dL_law_509 : decode cL_law 509 = .ok (.iload_n 3, 1) := by decide +kernel
theorem dL_law_510 : decode cL_law 510 = .ok (.iconst 2, 1) := by decide +kernel
theorem dL_law_511 : decode cL_law 511 = .ok (.iadd, 1) := by decide +kernel
theorem dL_law_512 : decode cL_law 512 = .ok (.iaload, 1) := by decide +kernel
theorem dL_law_513 : decode cL_law 513 = .ok (.invokevirtual 77, 3) := by decide +kernel
theorem dL_law_516 : decode cL_law 516 = .ok (.aload_n 2, 1) := by decide +kernel
theorem dL_law_517 : decode cL_law 517 = .ok (.aload_n 0, 1) := by decide +kernel
theorem dL_law_518 : decode cL_law 518 = .ok (.iload_n 3, 1) := by decide +kernel
theorem dL_law_519 : decode cL_law 519 = .ok (.iconst 1, 1) := by decide +kernel
theorem dL_law_520 : decode cL_law 520 = .ok (.iadd, 1) := by decide +kernel
theorem dL_law_521 : decode cL_law 521 = .ok (.iaload, 1) := by decide +kernel
theorem dL_law_522 : decode cL_law 522 = .ok (.aload_n 0, 1) := by decide +kernel
theorem dL_law_523 : decode cL_law 523 = .ok (.iload_n 3, 1) := by decide +kernel
theorem dL_law_524 : decode cL_law 524 = .ok (.iconst 2, 1) := by decide +kernel
theorem dL_law_525 : decode cL_law 525 = .ok (.iadd, 1) := by decide +kernel
theorem dL_law_526 : decode cL_law 526 = .ok (.iaload, 1) := by decide +kernel
theorem dL_law_527 : decode cL_law 527 = .ok (.invokevirtual 80, 3) := by decide +kernel
theorem dL_law_530 : decode cL_law 530 = .ok (.if_icmp .eq 74, 3) := by decide +kernel
theorem dL_law_533 : decode cL_law 533 = .ok (.iconst 0, 1) := by decide +kernel
theorem dL_law_534 : decode cL_law 534 = .ok (.ireturn, 1) := by decide +kernel
theorem dL_law_535 : decode cL_law 535 = .ok (.aload_n 1, 1) := by decide +kernel
theorem dL_law_536 : decode cL_law 536 = .ok (.aload_n 0, 1) := by decide +kernel
theorem dL_law_537 : decode cL_law 537 = .ok (.iload_n 3, 1) := by decide +kernel
theorem dL_law_538 : decode cL_law 538 = .ok (.iconst 1, 1) := by decide +kernel
theorem dL_law_539 : decode cL_law 539 = .ok (.iadd, 1) := by decide +kernel
theorem dL_law_540 : decode cL_law 540 = .ok (.iaload, 1) := by decide +kernel
theorem dL_law_541 : decode cL_law 541 = .ok (.invokevirtual 81, 3) := by decide +kernel
theorem dL_law_544 : decode cL_law 544 = .ok (.aload_n 2, 1) := by decide +kernel
theorem dL_law_545 : decode cL_law 545 = .ok (.aload_n 0, 1) := by decide +kernel
theorem dL_law_546 : decode cL_law 546 = .ok (.iload_n 3, 1) := by decide +kernel
theorem dL_law_547 : decode cL_law 547 = .ok (.iconst 1, 1) := by decide +kernel
theorem dL_law_548 : decode cL_law 548 = .ok (.iadd, 1) := by decide +kernel
theorem dL_law_549 : decode cL_law 549 = .ok (.iaload, 1) := by decide +kernel
theorem dL_law_550 : decode cL_law 550 = .ok (.invokevirtual 84, 3) := by decide +kernel
theorem dL_law_553 : decode cL_law 553 = .ok (.if_icmp .eq 51, 3) := by decide +kernel
theorem dL_law_556 : decode cL_law 556 = .ok (.iconst 0, 1) := by decide +kernel
theorem dL_law_557 : decode cL_law 557 = .ok (.ireturn, 1) := by decide +kernel
theorem dL_law_558 : decode cL_law 558 = .ok (.aload_n 1, 1) := by decide +kernel
theorem dL_law_559 : decode cL_law 559 = .ok (.aload_n 0, 1) := by decide +kernel
theorem dL_law_560 : decode cL_law 560 = .ok (.iload_n 3, 1) := by decide +kernel
theorem dL_law_561 : decode cL_law 561 = .ok (.iconst 1, 1) := by decide +kernel
theorem dL_law_562 : decode cL_law 562 = .ok (.iadd, 1) := by decide +kernel
theorem dL_law_563 : decode cL_law 563 = .ok (.iaload, 1) := by decide +kernel
theorem dL_law_564 : decode cL_law 564 = .ok (.invokevirtual 85, 3) := by decide +kernel
theorem dL_law_567 : decode cL_law 567 = .ok (.aload_n 2, 1) := by decide +kernel
theorem dL_law_568 : decode cL_law 568 = .ok (.aload_n 0, 1) := by decide +kernel
theorem dL_law_569 : decode cL_law 569 = .ok (.iload_n 3, 1) := by decide +kernel
theorem dL_law_570 : decode cL_law 570 = .ok (.iconst 1, 1) := by decide +kernel
theorem dL_law_571 : decode cL_law 571 = .ok (.iadd, 1) := by decide +kernel
theorem dL_law_572 : decode cL_law 572 = .ok (.iaload, 1) := by decide +kernel
theorem dL_law_573 : decode cL_law 573 = .ok (.invokevirtual 88, 3) := by decide +kernel
theorem dL_law_576 : decode cL_law 576 = .ok (.if_icmp .eq 28, 3) := by decide +kernel
theorem dL_law_579 : decode cL_law 579 = .ok (.iconst 0, 1) := by decide +kernel
theorem dL_law_580 : decode cL_law 580 = .ok (.ireturn, 1) := by decide +kernel
theorem dL_law_581 : decode cL_law 581 = .ok (.aload_n 1, 1) := by decide +kernel
theorem dL_law_582 : decode cL_law 582 = .ok (.aload_n 0, 1) := by decide +kernel
theorem dL_law_583 : decode cL_law 583 = .ok (.iload_n 3, 1) := by decide +kernel
theorem dL_law_584 : decode cL_law 584 = .ok (.iconst 1, 1) := by decide +kernel
theorem dL_law_585 : decode cL_law 585 = .ok (.iadd, 1) := by decide +kernel
theorem dL_law_586 : decode cL_law 586 = .ok (.iaload, 1) := by decide +kernel
theorem dL_law_587 : decode cL_law 587 = .ok (.invokevirtual 89, 3) := by decide +kernel
theorem dL_law_590 : decode cL_law 590 = .ok (.aload_n 2, 1) := by decide +kernel
theorem dL_law_591 : decode cL_law 591 = .ok (.aload_n 0, 1) := by decide +kernel
theorem dL_law_592 : decode cL_law 592 = .ok (.iload_n 3, 1) := by decide +kernel
theorem dL_law_593 : decode cL_law 593 = .ok (.iconst 1, 1) := by decide +kernel
theorem dL_law_594 : decode cL_law 594 = .ok (.iadd, 1) := by decide +kernel
theorem dL_law_595 : decode cL_law 595 = .ok (.iaload, 1) := by decide +kernel
theorem dL_law_596 : decode cL_law 596 = .ok (.invokevirtual 92, 3) := by decide +kernel
theorem dL_law_599 : decode cL_law 599 = .ok (.if_icmp .eq 5, 3) := by decide +kernel
theorem dL_law_602 : decode cL_law 602 = .ok (.iconst 0, 1) := by decide +kernel
theorem dL_law_603 : decode cL_law 603 = .ok (.ireturn, 1) := by decide +kernel
theorem dL_law_604 : decode cL_law 604 = .ok (.iinc 3 3, 3) := by decide +kernel
theorem dL_law_607 : decode cL_law 607 = .ok (.goto (-589), 3) := by decide +kernel
theorem dL_law_610 : decode cL_law 610 = .ok (.iconst 1, 1) := by decide +kernel
theorem dL_law_611 : decode cL_law 611 = .ok (.ireturn, 1) := by decide +kernel
end
section
/-! the worlds of this claim: classes, what objects hold, the uniform contract -/
abbrev classes : List vw_C := [(RX0, TX0, 13), (RX1, TX1, 5), (RX2, TX2, 6), (RX3, TX3, 16)]
abbrev Rd : Type := Int64 × Int64 × Int64 × Int64 × Int64 × Int64 × Int64 × Int64 × Int64 × Int64 × Int64 × Int64 × Int64
abbrev Sm : Type := (Nat → Int32) × (Nat → Int32) × Int32 × Int32 × Int32
def rdv (r : Rd) : List Value := [.long r.1, .long r.2.1, .long r.2.2.1, .long r.2.2.2.1, .long r.2.2.2.2.1, .long r.2.2.2.2.2.1, .long r.2.2.2.2.2.2.1, .long r.2.2.2.2.2.2.2.1, .long r.2.2.2.2.2.2.2.2.1, .long r.2.2.2.2.2.2.2.2.2.1, .long r.2.2.2.2.2.2.2.2.2.2.1, .long r.2.2.2.2.2.2.2.2.2.2.2.1, .long r.2.2.2.2.2.2.2.2.2.2.2.2]
def mdv (a b c : Nat) (r : Rd) : List Value := [.ref a, .ref b, .ref c, .long r.1, .long r.2.1, .long r.2.2.1, .long r.2.2.2.1, .long r.2.2.2.2.1, .long r.2.2.2.2.2.1, .long r.2.2.2.2.2.2.1, .long r.2.2.2.2.2.2.2.1, .long r.2.2.2.2.2.2.2.2.1, .long r.2.2.2.2.2.2.2.2.2.1, .long r.2.2.2.2.2.2.2.2.2.2.1, .long r.2.2.2.2.2.2.2.2.2.2.2.1, .long r.2.2.2.2.2.2.2.2.2.2.2.2]
def nwW : Cond := .methodLinkNest RX0 39 yX2_powerAt RX2
def KK (D : va_G) (cI cZ : ClassId) (U : State) : Prop := va_K D classes [(cI, .int), (cZ, .boolean)] U ∧ va_Nw nwW U
theorem KK.calling {D : va_G} {cI cZ : ClassId} {U : State} {g : JFrame} {mk : MethodId} {a : Array Value} (h : KK D cI cZ U) : KK D cI cZ (U.calling g mk a) := ⟨va_K.moved (u := U) (U := U.calling g mk a) (Vm.Alike.refl U.vm) h.1, va_Nw.same (u := U) (U := U.calling g mk a) rfl rfl h.2⟩
theorem KK.warm {D : va_G} {cI cZ : ClassId} {s U : State} (hW : s.WarmedH U.vm) (h : KK D cI cZ s) : KK D cI cZ U := ⟨va_K.moved hW.alike h.1, va_Nw.warmM hW h.2⟩
def CX (p : Program) (s : State) (m : MethodId) (args : Array Value) (meth : Method) (c : Code) (cc : ByteArray) (maxL : Nat) (ret : Option FieldType) (ws : List Cond) (own : String) : Prop := p.tables.exec = Jvm.exec ∧ c.code = cc ∧ c.maxLocals = maxL ∧ s.vm.findClass own = some m.cls ∧ (∀ w ∈ ws, w.before args s = true) ∧ meth.sig.returnType = ret ∧ meth.locks = false
def PreC (D : va_G) (cI cZ : ClassId) (av : List Value) (wc : va_W) (sz : Nat) : Array Value → State → Prop := va_Pc av (fun U => U.heap.size = sz ∧ va_P D classes wc U.heap ∧ KK D cI cZ U ∧ va_D (fun _ => True) wc)
def PoB {S : Type} (D : va_G) (A : Nat → Prop) (wu : S → va_W) : S → State → Prop := fun u t => va_P D classes (wu u) t.heap ∧ va_D A (wu u)
def CTi (l : Launch) (y : MethodName) (ws : List Cond) (rm : Room) (D : va_G) (cI cZ : ClassId) (av : List Value) (wc : va_W) {S : Type} (post : Int32 → S → Prop) (wu : S → va_W) : Prop := ∀ sz : Nat, Met l y ws rm (PreC D cI cZ av wc sz) (va_Qi post (PoB D (va_A wc sz) wu) (va_A wc sz)) 0 0 (va_A wc sz)
def CTl (l : Launch) (y : MethodName) (ws : List Cond) (rm : Room) (D : va_G) (cI cZ : ClassId) (av : List Value) (wc : va_W) {S : Type} (post : Int64 → S → Prop) (wu : S → va_W) : Prop := ∀ sz : Nat, Met l y ws rm (PreC D cI cZ av wc sz) (va_Ql post (PoB D (va_A wc sz) wu) (va_A wc sz)) 0 0 (va_A wc sz)
def CTv (l : Launch) (y : MethodName) (ws : List Cond) (rm : Room) (D : va_G) (cI cZ : ClassId) (av : List Value) (wc : va_W) {S : Type} (post : S → Prop) (wu : S → va_W) : Prop := ∀ sz : Nat, Met l y ws rm (PreC D cI cZ av wc sz) (va_Qv post (PoB D (va_A wc sz) wu) (va_A wc sz)) 0 0 (va_A wc sz)
/-- a method's entry: any end Qc -/
theorem enterM {l : Launch} {y : MethodName} {ws ws' : List Cond} {rm : Room} {D : va_G} {cI cZ : ClassId} {av : List Value} {wc : va_W} {cc : ByteArray} {maxL : Nat} {ret : Option FieldType} {own : String} {Qc : (Nat → Prop) → Array Value → State → Outcome → State → Prop} (hy : plainName y.cls = true) (hw : ws = Cond.code y cc maxL ret :: ws') (ho : y.cls = own) (hlen : (lg_sl av).length ≤ maxL)
    (body : ∀ (p : Program) (e : Env) (s : State) (m : MethodId) (below : List Frame) (meth : Method) (c : Code) (A : Nat → Prop) (ls : Array Slot), CX p s m av.toArray meth c cc maxL ret ws own → KK D cI cZ s → (∀ q, s.heap.size ≤ q → A q) → va_P D classes wc s.heap → va_D A wc → va_S A s.heap s.heap [] → lv_has ls maxL (lv_args 0 av) → W p l e rm s m av.toArray below meth c s.heap [] 0 0 (MQ below (Qc A) av.toArray s 0 0 A) (F0 m 0 ls [])) (sz : Nat) :
    Met l y ws rm (PreC D cI cZ av wc sz) (Qc (va_A wc sz)) 0 0 (va_A wc sz) := by
  refine Met.ofW (cc := cc) (maxL := maxL) (ret := ret) hy hw ?_
  intro p e s m args below meth c s₁ B hml hv
  obtain ⟨rfl, hsz, hP, hK, hD0⟩ := hv
  subst hsz
  rw [lg_entry_eq]
  exact body p e s m below meth c (va_A wc s.heap.size) _ ⟨B.exec, B.bytes, hml, by rw [← ho]; exact findClass_of_methodNamed B.named, atoms_spec (ws := ws) B.pre, B.returns, B.notSynchronized⟩ hK (fun q h => Or.inr h) hP hD0.self va_S.rf (lv_entry av hlen)
section RET
variable {p : Program} {l : Launch} {e : Env} {R : Room} {s : State} {m : MethodId} {args : Array Value} {below : List Frame} {meth : Method} {c : Code} {H : Heap} {locs : List Loc} {cc : ByteArray} {maxL : Nat} {ws : List Cond} {own : String} {D : va_G} {A : Nat → Prop} {S : Type} {wu : S → va_W} {pc : Nat} {ls : Array Slot}
theorem ret_i {post : Int32 → S → Prop} {v : Int32} (C : CX p s m args meth c cc maxL (some .int) ws own) (u : S) (hp : post v u) (hP : va_P D classes (wu u) H) (hD : va_D A (wu u)) (hS : va_S A s.heap H locs) (hdg : decode cc pc = .ok (.ireturn, 1)) : W p l e R s m args below meth c H locs 0 0 (MQ below (va_Qi post (PoB D A wu) A) args s 0 0 A) (F0 m pc ls [.int v]) :=
  W.iret (v := v) C.1 C.2.1 C.2.2.2.2.2.1 (fun t ht _ => ⟨⟨v, u, rfl, hp, by rw [ht]; exact hP, hD⟩, hS.F ht⟩) hS.2.2 hdg (hlocks := C.2.2.2.2.2.2)
theorem ret_z {post : Int32 → S → Prop} {v : Int32} (C : CX p s m args meth c cc maxL (some .boolean) ws own) (hn : v = 0 ∨ v = 1) (u : S) (hp : post v u) (hP : va_P D classes (wu u) H) (hD : va_D A (wu u)) (hS : va_S A s.heap H locs) (hdg : decode cc pc = .ok (.ireturn, 1)) : W p l e R s m args below meth c H locs 0 0 (MQ below (va_Qi post (PoB D A wu) A) args s 0 0 A) (F0 m pc ls [.int v]) :=
  W.zret (v := v) C.1 C.2.1 C.2.2.2.2.2.1 (by rcases hn with h | h <;> subst h <;> rfl) (fun t ht _ => ⟨⟨v, u, rfl, hp, by rw [ht]; exact hP, hD⟩, hS.F ht⟩) hS.2.2 hdg (hlocks := C.2.2.2.2.2.2)
theorem ret_l {post : Int64 → S → Prop} {v : Int64} (C : CX p s m args meth c cc maxL (some .long) ws own) (u : S) (hp : post v u) (hP : va_P D classes (wu u) H) (hD : va_D A (wu u)) (hS : va_S A s.heap H locs) (hdg : decode cc pc = .ok (.lreturn, 1)) : W p l e R s m args below meth c H locs 0 0 (MQ below (va_Ql post (PoB D A wu) A) args s 0 0 A) (F0 m pc ls [.long v]) :=
  W.lret (v := v) C.1 C.2.1 C.2.2.2.2.2.1 (fun t ht _ => ⟨⟨v, u, rfl, hp, by rw [ht]; exact hP, hD⟩, hS.F ht⟩) hS.2.2 hdg (hlocks := C.2.2.2.2.2.2)
theorem ret_v {post : S → Prop} (C : CX p s m args meth c cc maxL none ws own) (u : S) (hp : post u) (hP : va_P D classes (wu u) H) (hD : va_D A (wu u)) (hS : va_S A s.heap H locs) (hdg : decode cc pc = .ok (.return_, 1)) : W p l e R s m args below meth c H locs 0 0 (MQ below (va_Qv post (PoB D A wu) A) args s 0 0 A) (F0 m pc ls []) :=
  W.vret C.1 C.2.1 C.2.2.2.2.2.1 (fun t ht _ => ⟨⟨u, rfl, hp, by rw [ht]; exact hP, hD⟩, hS.F ht⟩) hS.2.2 hdg (hlocks := C.2.2.2.2.2.2)
end RET
section CALLS
variable {p : Program} {l : Launch} {e : Env} {R : Room} {s : State} {m : MethodId} {args : Array Value} {below : List Frame} {meth : Method} {c : Code} {H : Heap} {locs : List Loc} {cells slots : Nat} {Q : State → Prop} {cc bytes : ByteArray} {nL maxL n index pc : Nat} {ret ret' : Option FieldType} {Ts ws : List Cond} {own Cn : String} {D : va_G} {cI cZ : ClassId} {A A0 : Nat → Prop} {y : MethodName} {rm : Room} {b : Addr} {As rest st0 : List Value} {wc : va_W} {ls : Array Slot} {Qc : Nat → Array Value → State → Outcome → State → Prop} {fr : Nat → Addr → Prop} {H0 : Heap}
theorem run_V (C : CX p s m args meth c cc nL ret Ts own) (hM : ∀ sz : Nat, Met l y ws rm (PreC D cI cZ (.ref b :: As) wc sz) (Qc sz) 0 0 (fr sz)) (cw : CallW R s args own Cn index y bytes maxL ret' ws rm 0 0 n) (hK : KK D cI cZ s) (hPc : va_P D classes wc H) (hDc : va_D A wc) (q0 ci : Nat) {qc : vw_C} {fs : List Value} (hc : classes[ci]? = some qc) (hcn : qc.1 = Cn) (he : wc[q0]? = some (b, .inr (ci, fs))) (hn : As.length = n) (hsz : ls.size = nL) (hst : st0 = As.reverse ++ .ref b :: rest) (hW : (rest.map fun v => v.category).sum ≤ 8) (hdg : decode cc pc = .ok (.invokevirtual index, 3)) (hc1 : cells ≤ R.cells) (hs1 : slots ≤ R.slots) :
    va_Run p l e R s m args below meth c H locs cells slots 0 0 (F0 m pc ls st0) rest (Qc H.size (Value.ref b :: As).toArray) (fr H.size) := by
  subst hcn
  exact va_runV (As := As) (rest := rest) ⟨C.1, C.2.1, C.2.2.1, C.2.2.2.1, C.2.2.2.2.1⟩ (hM H.size) cw ⟨fun a U g mk q => ⟨q.1, q.2.1, q.2.2.1, q.2.2.2.1.calling, q.2.2.2.2⟩, va_recv hK.1 hPc hc he, fun U hU hW => ⟨rfl, by rw [hU], by rw [hU]; exact hPc, hK.warm hW, hDc.weaken (fun _ _ _ _ => trivial)⟩⟩ rfl hn hsz hst (lv_room hW) hdg ⟨hc1, hs1⟩
theorem run_S (C : CX p s m args meth c cc nL ret Ts own) (hM : ∀ sz : Nat, Met l y ws rm (PreC D cI cZ As wc sz) (Qc sz) 0 0 (fr sz)) (cw : CallB R s args own index y bytes maxL ret' ws rm 0 0 n ∧ (Cond.static y).before args s = true) (hK : KK D cI cZ s) (hPc : va_P D classes wc H) (hDc : va_D A wc) (hn : As.length = n) (hsz : ls.size = nL) (hst : st0 = As.reverse ++ rest) (hW : (rest.map fun v => v.category).sum ≤ 8) (hdg : decode cc pc = .ok (.invokestatic index, 3)) (hc1 : cells ≤ R.cells) (hs1 : slots ≤ R.slots) :
    va_Run p l e R s m args below meth c H locs cells slots 0 0 (F0 m pc ls st0) rest (Qc H.size As.toArray) (fr H.size) :=
  va_runS (As := As) (rest := rest) ⟨C.1, C.2.1, C.2.2.1, C.2.2.2.1, C.2.2.2.2.1⟩ (hM H.size) cw ⟨fun a U g mk q => ⟨q.1, q.2.1, q.2.2.1, q.2.2.2.1.calling, q.2.2.2.2⟩, fun U hU hW => ⟨rfl, by rw [hU], by rw [hU]; exact hPc, hK.warm hW, hDc.weaken (fun _ _ _ _ => trivial)⟩⟩ rfl hn hsz hst (lv_room hW) hdg ⟨hc1, hs1⟩
theorem run_SN {host : String} (C : CX p s m args meth c cc nL ret Ts own) (hM : ∀ sz : Nat, Met l y ws rm (PreC D cI cZ As wc sz) (Qc sz) 0 0 (fr sz)) (cw : va_CN R s args own index y host bytes maxL ret' ws rm 0 0 n ∧ (Cond.static y).before args s = true ∧ True) (hK : KK D cI cZ s) (hPc : va_P D classes wc H) (hDc : va_D A wc) (hn : As.length = n) (hsz : ls.size = nL) (hst : st0 = As.reverse ++ rest) (hW : (rest.map fun v => v.category).sum ≤ 8) (hdg : decode cc pc = .ok (.invokestatic index, 3)) (hc1 : cells ≤ R.cells) (hs1 : slots ≤ R.slots) :
    va_Run p l e R s m args below meth c H locs cells slots 0 0 (F0 m pc ls st0) rest (Qc H.size As.toArray) (fr H.size) :=
  va_runSN (As := As) (rest := rest) ⟨C.1, C.2.1, C.2.2.1, C.2.2.2.1, C.2.2.2.2.1⟩ (hM H.size) cw ⟨fun a U g mk q => ⟨q.1, q.2.1, q.2.2.1, q.2.2.2.1.calling, q.2.2.2.2⟩, fun U hU hW => ⟨rfl, by rw [hU], by rw [hU]; exact hPc, hK.warm hW, hDc.weaken (fun _ _ _ _ => trivial)⟩⟩ rfl hn hsz hst (lv_room hW) hdg ⟨hc1, hs1⟩
variable {S : Type} {wu : S → va_W} {wsx wr : va_W} {a : Array Value}
theorem aft_i {post : Int32 → S → Prop} (hr : va_Run p l e R s m args below meth c H locs cells slots 0 0 (F0 m pc ls st0) rest (va_Qi post (PoB D (va_A wc H.size) wu) (va_A wc H.size) a) (va_A wc H.size)) (hP : va_P D classes wsx H) (hD : va_D A0 wsx) (hS : va_S A0 H0 H locs) (hA : ∀ q, H0.size ≤ q → A0 q) (isC isR : List Nat) (hC : isC.map (fun i => wsx[i]?) = wc.map some) (hR : isR.map (fun i => wsx[i]?) = wr.map some) (hn : va_nd isR = true) (hdis : ∀ i ∈ isR, i ∉ isC)
    (kk : ∀ (r : Int32) (u : S) (H1 : Heap) (locs1 : List Loc), post r u → va_P D classes (wr ++ wu u) H1 → va_D A0 (wr ++ wu u) → va_S A0 H0 H1 locs1 → W p l e R s m args below meth c H1 locs1 cells slots Q (F0 m (pc + 3) ls (.int r :: rest))) : W p l e R s m args below meth c H locs cells slots Q (F0 m pc ls st0) := by
  have hFc := va_free (wc := wc) hD hS hA isC hC
  refine va_calli hr hS (fun q _ h => hFc q h) hFc (fun r u t H1 locs1 ht hvm hw hB hz1 hk1 hS => ?_)
  obtain ⟨hP1, hD1⟩ := hB
  rw [ht] at hP1
  obtain ⟨hP2, hD2⟩ := va_join (wr := wr) (w1 := wu u) hP hD isC isR hC hR hn hdis hk1 hFc hP1 hD1
  exact kk r u H1 locs1 hw hP2 hD2 hS
theorem aft_l {post : Int64 → S → Prop} (hr : va_Run p l e R s m args below meth c H locs cells slots 0 0 (F0 m pc ls st0) rest (va_Ql post (PoB D (va_A wc H.size) wu) (va_A wc H.size) a) (va_A wc H.size)) (hP : va_P D classes wsx H) (hD : va_D A0 wsx) (hS : va_S A0 H0 H locs) (hA : ∀ q, H0.size ≤ q → A0 q) (isC isR : List Nat) (hC : isC.map (fun i => wsx[i]?) = wc.map some) (hR : isR.map (fun i => wsx[i]?) = wr.map some) (hn : va_nd isR = true) (hdis : ∀ i ∈ isR, i ∉ isC)
    (kk : ∀ (r : Int64) (u : S) (H1 : Heap) (locs1 : List Loc), post r u → va_P D classes (wr ++ wu u) H1 → va_D A0 (wr ++ wu u) → va_S A0 H0 H1 locs1 → W p l e R s m args below meth c H1 locs1 cells slots Q (F0 m (pc + 3) ls (.long r :: rest))) : W p l e R s m args below meth c H locs cells slots Q (F0 m pc ls st0) := by
  have hFc := va_free (wc := wc) hD hS hA isC hC
  refine va_calll hr hS (fun q _ h => hFc q h) hFc (fun r u t H1 locs1 ht hvm hw hB hz1 hk1 hS => ?_)
  obtain ⟨hP1, hD1⟩ := hB
  rw [ht] at hP1
  obtain ⟨hP2, hD2⟩ := va_join (wr := wr) (w1 := wu u) hP hD isC isR hC hR hn hdis hk1 hFc hP1 hD1
  exact kk r u H1 locs1 hw hP2 hD2 hS
theorem aft_v {post : S → Prop} (hr : va_Run p l e R s m args below meth c H locs cells slots 0 0 (F0 m pc ls st0) rest (va_Qv post (PoB D (va_A wc H.size) wu) (va_A wc H.size) a) (va_A wc H.size)) (hP : va_P D classes wsx H) (hD : va_D A0 wsx) (hS : va_S A0 H0 H locs) (hA : ∀ q, H0.size ≤ q → A0 q) (isC isR : List Nat) (hC : isC.map (fun i => wsx[i]?) = wc.map some) (hR : isR.map (fun i => wsx[i]?) = wr.map some) (hn : va_nd isR = true) (hdis : ∀ i ∈ isR, i ∉ isC)
    (kk : ∀ (u : S) (H1 : Heap) (locs1 : List Loc), post u → va_P D classes (wr ++ wu u) H1 → va_D A0 (wr ++ wu u) → va_S A0 H0 H1 locs1 → W p l e R s m args below meth c H1 locs1 cells slots Q (F0 m (pc + 3) ls rest)) : W p l e R s m args below meth c H locs cells slots Q (F0 m pc ls st0) := by
  have hFc := va_free (wc := wc) hD hS hA isC hC
  refine va_callv hr hS (fun q _ h => hFc q h) hFc (fun u t H1 locs1 ht hvm hw hB hz1 hk1 hS => ?_)
  obtain ⟨hP1, hD1⟩ := hB
  rw [ht] at hP1
  obtain ⟨hP2, hD2⟩ := va_join (wr := wr) (w1 := wu u) hP hD isC isR hC hR hn hdis hk1 hFc hP1 hD1
  exact kk u H1 locs1 hw hP2 hD2 hS
end CALLS
end
section
/-! small rows on numbers for loops and indices -/
theorem vp_of {i : Int32} {k n : Nat} (hi : i.toInt = (k : Int)) (h : k < n) : vp_in i n := vp_in_iff.mpr ⟨by omega, by omega⟩
theorem i_ltN {i N : Int32} {k : Nat} (hi : i.toInt = (k : Int)) (c : ¬ N ≤ i) : (k : Int) < N.toInt := by
  rw [Int32.le_iff_toInt_le] at c
  omega
theorem i_lt10 {i : Int32} {k : Nat} (hi : i.toInt = (k : Int)) (c : ¬ (10 : Int32) ≤ i) : k < 10 := by
  have h := i_ltN hi c
  have e : (10 : Int32).toInt = 10 := by decide
  omega
theorem i_lt23 {i : Int32} {k : Nat} (hi : i.toInt = (k : Int)) (c : ¬ (23 : Int32) ≤ i) : k < 23 := by
  have h := i_ltN hi c
  have e : (23 : Int32).toInt = 23 := by decide
  omega
theorem i_lt1024 {i : Int32} {k : Nat} (hi : i.toInt = (k : Int)) (c : ¬ (1024 : Int32) ≤ i) : k < 1024 := by
  have h := i_ltN hi c
  have e : (1024 : Int32).toInt = 1024 := by decide
  omega
theorem i_add {a b : Int32} (h1 : -2147483648 ≤ a.toInt + b.toInt) (h2 : a.toInt + b.toInt < 2147483648) : (a + b).toInt = a.toInt + b.toInt := by
  rw [Int32.toInt_add]
  exact Int.bmod_eq_of_le (by omega) (by omega)
theorem i_succ {i : Int32} {k : Nat} (hi : i.toInt = (k : Int)) (hk : k < 1073741824) : (i + 1).toInt = ((k + 1 : Nat) : Int) := by
  have e : (1 : Int32).toInt = 1 := by decide
  rw [i_add (by omega) (by omega), e, hi]
  omega
theorem i_lt100 {i : Int32} {k : Nat} (hi : i.toInt = (k : Int)) (c : ¬ (100 : Int32) ≤ i) : k < 100 := by
  have h := i_ltN hi c
  have e : (100 : Int32).toInt = 100 := by decide
  omega
theorem i_succ40 {i : Int32} {k : Nat} (hi : i.toInt = (k : Int) - 40) (hk : k < 1073741824) : (i + 1).toInt = ((k + 1 : Nat) : Int) - 40 := by
  have e : (1 : Int32).toInt = 1 := by decide
  rw [i_add (by omega) (by omega), e, hi]
  omega
theorem i_le40 {i : Int32} {k : Nat} (hi : i.toInt = (k : Int) - 40) (c : ¬ (40 : Int32) < i) : k + 1 ≤ 81 := by
  rw [Int32.lt_iff_toInt_lt] at c
  have e : (40 : Int32).toInt = 40 := by decide
  omega
theorem vp_of2 {i : Int32} (h0 : ¬ i < 0) (h1 : i < 10) : vp_in i 10 := by
  rw [Int32.lt_iff_toInt_lt] at h0 h1
  have e : (10 : Int32).toInt = 10 := by decide
  have e0 : (0 : Int32).toInt = 0 := by decide
  exact vp_in_iff.mpr ⟨by omega, by omega⟩
theorem vp_of3 {i : Int32} (h0 : ¬ i < 0) (h1 : ¬ (10 : Int32) ≤ i) : vp_in i 10 := by
  rw [Int32.lt_iff_toInt_lt] at h0
  rw [Int32.le_iff_toInt_le] at h1
  have e : (10 : Int32).toInt = 10 := by decide
  have e0 : (0 : Int32).toInt = 0 := by decide
  exact vp_in_iff.mpr ⟨by omega, by omega⟩
theorem lcz {x : Int64} (h : ¬ lg_cmp x 0 = 0) : ¬ x = 0 := fun e => h (by rw [e]; decide)
theorem lgz {x : Int64} (h : 0 < lg_cmp x 0) : ¬ x = 0 := fun e => by rw [e] at h; exact absurd h (by decide)
theorem lgz2 {x : Int64} (h : ¬ lg_cmp x 0 ≤ 0) : ¬ x = 0 := fun e => by rw [e] at h; exact absurd (by decide) h
theorem and63_le (x : Int32) : ((x &&& 63) - 3).toInt ≤ 60 := by
  have h : (x &&& 63).toInt = x.toInt % 2 ^ 6 := Jvm.Kit.i32_mask x 63 (by decide) (by decide)
  have e : (-3 : Int32).toInt = -3 := by decide
  have hs : (x &&& 63) - 3 = (x &&& 63) + (-3) := Int32.sub_eq_add_neg _ _
  rw [hs, i_add (by omega) (by omega)]
  omega
/-! the reference's number of samples -/
def MB (st : Nat → Int32) : Prop := 0 ≤ (st 20).toInt ∧ (st 20).toInt ≤ 10
theorem i_ltM {st : Nat → Int32} {i : Int32} {k : Nat} (hm : MB st) (hi : i.toInt = (k : Int)) (c : ¬ st 20 ≤ i) : k < 10 := by
  have h := i_ltN hi c
  have := hm.2
  omega
theorem i_lt9 {i : Int32} {k : Nat} (hi : i.toInt = (k : Int)) (hk : k < 10) : i.toInt < 10 := by omega
theorem vp_x {i : Int32} {k : Nat} (hi : i.toInt = (k : Int)) (hk : k < 10) : vp_in (0 + i) 23 := by
  have e : (0 : Int32).toInt = 0 := by decide
  refine vp_in_iff.mpr ?_
  rw [i_add (by omega) (by omega), e]
  omega
theorem vp_y {i : Int32} {k : Nat} (hi : i.toInt = (k : Int)) (hk : k < 10) : vp_in (10 + i) 23 := by
  have e : (10 : Int32).toInt = 10 := by decide
  refine vp_in_iff.mpr ?_
  rw [i_add (by omega) (by omega), e]
  omega
theorem vp_xw {i : Int32} (c : ¬ i < 0) (h : i.toInt < 10) : vp_in (0 + i) 23 := by
  rw [Int32.lt_iff_toInt_lt] at c
  have e : (0 : Int32).toInt = 0 := by decide
  exact vp_x (k := i.toInt.toNat) (by omega) (by omega)
theorem vp_yw {i : Int32} (c : ¬ i < 0) (h : i.toInt < 10) : vp_in (10 + i) 23 := by
  rw [Int32.lt_iff_toInt_lt] at c
  have e : (0 : Int32).toInt = 0 := by decide
  exact vp_y (k := i.toInt.toNat) (by omega) (by omega)
theorem vp_n9 {st : Nat → Int32} (hm : MB st) (c : ¬ st 20 = 10) : (st 20).toInt < 10 := by
  obtain ⟨h1, h2⟩ := hm
  have : ¬ (st 20).toInt = 10 := fun h => c (Int32.toInt_inj.mp (by rw [h]; decide))
  omega
theorem vp_x9 {st : Nat → Int32} (hm : MB st) (c : ¬ st 20 = 10) : vp_in (0 + st 20) 23 := vp_x (k := (st 20).toInt.toNat) (by have := hm.1; omega) (by have := vp_n9 hm c; omega)
theorem vp_y9 {st : Nat → Int32} (hm : MB st) (c : ¬ st 20 = 10) : vp_in (10 + st 20) 23 := vp_y (k := (st 20).toInt.toNat) (by have := hm.1; omega) (by have := vp_n9 hm c; omega)
theorem MB_21 {st : Nat → Int32} {v : Int32} (hm : MB st) : MB (upd st 21 v) := by
  have e : (upd st 21 v) 20 = st 20 := by simp [upd]
  unfold MB
  rw [e]
  exact hm
end
section
def F_X2_powerAt (p0 : Int32) (p1 : Int32) : Int32 := (p0 * p0) + (p1 * p1)
set_option maxHeartbeats 4000000 in
set_option maxRecDepth 100000 in
theorem c_X2_powerAt (l : Launch) (D : va_G) (cI cZ : ClassId) (p0 : Int32) (p1 : Int32) : CTi l yX2_powerAt wsX2_powerAt ({ frames := 0, cells := 0, slots := 0, locals := 0 } : Room) D cI cZ [.int p0, .int p1] [] (S := Unit) (fun z9 _ => F_X2_powerAt p0 p1 = z9) (fun _ => []) := by
  refine enterM (cc := cX2_powerAt) (maxL := 2) (ret := (some .int)) (own := RX2) (Qc := fun A => va_Qi (S := Unit) (fun z9 _ => F_X2_powerAt p0 p1 = z9) (PoB (S := Unit) D A (fun _ => [])) A) (by decide) rfl rfl (Nat.le_of_ble_eq_true rfl) ?_
  intro p e s m below meth c A ls C hK hA hP hD hS hl
  have hx := C.1
  have hb := C.2.1
  have hown := C.2.2.2.1
  have hts := C.2.2.2.2.1
  have _huse := hts
  have hl : lv_has ls 2 [(0, .int p0), (1, .int p1)] := hl
  refine lv_iload_n hx hb dX2_powerAt_0 rfl (lv_at hl 0 rfl) ?_
  refine lv_iload_n hx hb dX2_powerAt_1 rfl (lv_at hl 0 rfl) ?_
  refine lv_imul hx hb dX2_powerAt_2 ?_
  refine lv_iload_n hx hb dX2_powerAt_3 rfl (lv_at hl 1 rfl) ?_
  refine lv_iload_n hx hb dX2_powerAt_4 rfl (lv_at hl 1 rfl) ?_
  refine lv_imul hx hb dX2_powerAt_5 ?_
  refine lv_iadd hx hb dX2_powerAt_6 ?_
  exact ret_i C () rfl hP hD hS dX2_powerAt_7
def F_X2_isBetween (p0 : Int32) (p1 : Int32) (p2 : Int32) : Int32 := if p0 < p1 then (0) else (if p2 < p0 then (0) else (1))
set_option maxHeartbeats 4000000 in
set_option maxRecDepth 100000 in
theorem c_X2_isBetween (l : Launch) (D : va_G) (cI cZ : ClassId) (p0 : Int32) (p1 : Int32) (p2 : Int32) : CTi l yX2_isBetween wsX2_isBetween ({ frames := 0, cells := 0, slots := 0, locals := 0 } : Room) D cI cZ [.int p0, .int p1, .int p2] [] (S := Unit) (fun z9 _ => F_X2_isBetween p0 p1 p2 = z9) (fun _ => []) := by
  refine enterM (cc := cX2_isBetween) (maxL := 3) (ret := (some .boolean)) (own := RX2) (Qc := fun A => va_Qi (S := Unit) (fun z9 _ => F_X2_isBetween p0 p1 p2 = z9) (PoB (S := Unit) D A (fun _ => [])) A) (by decide) rfl rfl (Nat.le_of_ble_eq_true rfl) ?_
  intro p e s m below meth c A ls C hK hA hP hD hS hl
  have hx := C.1
  have hb := C.2.1
  have hown := C.2.2.2.1
  have hts := C.2.2.2.2.1
  have _huse := hts
  have hl : lv_has ls 3 [(0, .int p0), (1, .int p1), (2, .int p2)] := hl
  refine lv_iload_n hx hb dX2_isBetween_0 rfl (lv_at hl 0 rfl) ?_
  refine lv_iload_n hx hb dX2_isBetween_1 rfl (lv_at hl 1 rfl) ?_
  refine lv_icmp_lt (tgt := 14) hx hb dX2_isBetween_2 (by decide) (fun c_2 => ?_) (fun c_2 => ?_)
  · refine lv_iconst (v := 0) hx hb dX2_isBetween_14 (by decide) ?_
    exact ret_z C (Or.inl rfl) () (if_pos c_2) hP hD hS dX2_isBetween_15
  · refine lv_iload_n hx hb dX2_isBetween_5 rfl (lv_at hl 0 rfl) ?_
    refine lv_iload_n hx hb dX2_isBetween_6 rfl (lv_at hl 2 rfl) ?_
    refine lv_icmp_gt (tgt := 14) hx hb dX2_isBetween_7 (by decide) (fun c_7 => ?_) (fun c_7 => ?_)
    · refine lv_iconst (v := 0) hx hb dX2_isBetween_14 (by decide) ?_
      exact ret_z C (Or.inl rfl) () ((if_neg c_2).trans ((if_pos c_7))) hP hD hS dX2_isBetween_15
    · refine lv_iconst (v := 1) hx hb dX2_isBetween_10 (by decide) ?_
      refine lv_goto (tgt := 15) hx hb dX2_isBetween_11 (by decide) ?_
      exact ret_z C (Or.inr rfl) () ((if_neg c_2).trans ((if_neg c_7))) hP hD hS dX2_isBetween_15
def F_X2_isPlace (p0 : Int32) (p1 : Int32) : Int32 := if (F_X2_isBetween p0 (-40) 40) = 0 then (0) else (if (F_X2_isBetween p1 (-40) 40) = 0 then (0) else (1))
set_option maxHeartbeats 4000000 in
set_option maxRecDepth 100000 in
theorem c_X2_isPlace (l : Launch) (D : va_G) (cI cZ : ClassId) (p0 : Int32) (p1 : Int32) : CTi l yX2_isPlace wsX2_isPlace ({ frames := 1, cells := 0, slots := 0, locals := 22 } : Room) D cI cZ [.int p0, .int p1] [] (S := Unit) (fun z9 _ => F_X2_isPlace p0 p1 = z9) (fun _ => []) := by
  refine enterM (cc := cX2_isPlace) (maxL := 2) (ret := (some .boolean)) (own := RX2) (Qc := fun A => va_Qi (S := Unit) (fun z9 _ => F_X2_isPlace p0 p1 = z9) (PoB (S := Unit) D A (fun _ => [])) A) (by decide) rfl rfl (Nat.le_of_ble_eq_true rfl) ?_
  intro p e s m below meth c A ls C hK hA hP hD hS hl
  have hx := C.1
  have hb := C.2.1
  have hown := C.2.2.2.1
  have hts := C.2.2.2.2.1
  have _huse := hts
  have hl : lv_has ls 2 [(0, .int p0), (1, .int p1)] := hl
  refine lv_iload_n hx hb dX2_isPlace_0 rfl (lv_at hl 0 rfl) ?_
  refine lv_bipush (v := (-40)) hx hb dX2_isPlace_1 (by decide) ?_
  refine lv_bipush (v := 40) hx hb dX2_isPlace_3 (by decide) ?_
  refine aft_i (wr := []) (run_S (As := [.int p0, .int (-40), .int 40]) (rest := []) C (c_X2_isBetween l D cI cZ p0 (-40) 40) (va_cwS 3 hts gX2_isPlace_X2_isBetween rfl rfl rfl (by decide +kernel) ⟨Nat.le_of_ble_eq_true rfl, Nat.le_of_ble_eq_true rfl⟩) hK (hP.sub (ws' := []) [] rfl) (hD.sub (ws' := []) [] (by decide) rfl) rfl hl.1 rfl (Nat.le_of_ble_eq_true rfl) dX2_isPlace_5 (Nat.zero_le _) (Nat.zero_le _)) hP hD hS hA [] [] rfl rfl (by decide) (by decide) (fun r u H locs hw hP hD hS => ?_)
  subst hw
  have hP : va_P D classes [] H := hP
  have hD : va_D A [] := hD
  refine lv_if_eq (tgt := 26) hx hb dX2_isPlace_8 (by decide) (fun c_8 => ?_) (fun c_8 => ?_)
  · refine lv_iconst (v := 0) hx hb dX2_isPlace_26 (by decide) ?_
    exact ret_z C (Or.inl rfl) () (if_pos c_8) hP hD hS dX2_isPlace_27
  · refine lv_iload_n hx hb dX2_isPlace_11 rfl (lv_at hl 1 rfl) ?_
    refine lv_bipush (v := (-40)) hx hb dX2_isPlace_12 (by decide) ?_
    refine lv_bipush (v := 40) hx hb dX2_isPlace_14 (by decide) ?_
    refine aft_i (wr := []) (run_S (As := [.int p1, .int (-40), .int 40]) (rest := []) C (c_X2_isBetween l D cI cZ p1 (-40) 40) (va_cwS 3 hts gX2_isPlace_X2_isBetween rfl rfl rfl (by decide +kernel) ⟨Nat.le_of_ble_eq_true rfl, Nat.le_of_ble_eq_true rfl⟩) hK (hP.sub (ws' := []) [] rfl) (hD.sub (ws' := []) [] (by decide) rfl) rfl hl.1 rfl (Nat.le_of_ble_eq_true rfl) dX2_isPlace_16 (Nat.zero_le _) (Nat.zero_le _)) hP hD hS hA [] [] rfl rfl (by decide) (by decide) (fun r u H locs hw hP hD hS => ?_)
    subst hw
    have hP : va_P D classes [] H := hP
    have hD : va_D A [] := hD
    refine lv_if_eq (tgt := 26) hx hb dX2_isPlace_19 (by decide) (fun c_19 => ?_) (fun c_19 => ?_)
    · refine lv_iconst (v := 0) hx hb dX2_isPlace_26 (by decide) ?_
      exact ret_z C (Or.inl rfl) () ((if_neg c_8).trans ((if_pos c_19))) hP hD hS dX2_isPlace_27
    · refine lv_iconst (v := 1) hx hb dX2_isPlace_22 (by decide) ?_
      refine lv_goto (tgt := 27) hx hb dX2_isPlace_23 (by decide) ?_
      exact ret_z C (Or.inr rfl) () ((if_neg c_8).trans ((if_neg c_19))) hP hD hS dX2_isPlace_27
def F_X2_isIn (p0 : Int32) (p1 : Int32) : Int32 := if ((p0 >>> (p1 &&& 31)) &&& 1) = 1 then (1) else (0)
set_option maxHeartbeats 4000000 in
set_option maxRecDepth 100000 in
theorem c_X2_isIn (l : Launch) (D : va_G) (cI cZ : ClassId) (p0 : Int32) (p1 : Int32) : CTi l yX2_isIn wsX2_isIn ({ frames := 0, cells := 0, slots := 0, locals := 0 } : Room) D cI cZ [.int p0, .int p1] [] (S := Unit) (fun z9 _ => F_X2_isIn p0 p1 = z9) (fun _ => []) := by
  refine enterM (cc := cX2_isIn) (maxL := 2) (ret := (some .boolean)) (own := RX2) (Qc := fun A => va_Qi (S := Unit) (fun z9 _ => F_X2_isIn p0 p1 = z9) (PoB (S := Unit) D A (fun _ => [])) A) (by decide) rfl rfl (Nat.le_of_ble_eq_true rfl) ?_
  intro p e s m below meth c A ls C hK hA hP hD hS hl
  have hx := C.1
  have hb := C.2.1
  have hown := C.2.2.2.1
  have hts := C.2.2.2.2.1
  have _huse := hts
  have hl : lv_has ls 2 [(0, .int p0), (1, .int p1)] := hl
  refine lv_iload_n hx hb dX2_isIn_0 rfl (lv_at hl 0 rfl) ?_
  refine lv_iload_n hx hb dX2_isIn_1 rfl (lv_at hl 1 rfl) ?_
  refine lv_ishr hx hb dX2_isIn_2 ?_
  refine lv_iconst (v := 1) hx hb dX2_isIn_3 (by decide) ?_
  refine lv_iand hx hb dX2_isIn_4 ?_
  refine lv_iconst (v := 1) hx hb dX2_isIn_5 (by decide) ?_
  refine lv_icmp_ne (tgt := 13) hx hb dX2_isIn_6 (by decide) (fun c_6 => ?_) (fun c_6 => ?_)
  · refine lv_iconst (v := 0) hx hb dX2_isIn_13 (by decide) ?_
    exact ret_z C (Or.inl rfl) () (if_neg c_6) hP hD hS dX2_isIn_14
  · refine lv_iconst (v := 1) hx hb dX2_isIn_9 (by decide) ?_
    refine lv_goto (tgt := 14) hx hb dX2_isIn_10 (by decide) ?_
    exact ret_z C (Or.inr rfl) () (if_pos c_6) hP hD hS dX2_isIn_14
def F_X2_setOfEighth (p0 : Int32) : Int32 := if p0 < 0 then (0) else (1 <<< (p0 &&& 31))
set_option maxHeartbeats 4000000 in
set_option maxRecDepth 100000 in
theorem c_X2_setOfEighth (l : Launch) (D : va_G) (cI cZ : ClassId) (p0 : Int32) : CTi l yX2_setOfEighth wsX2_setOfEighth ({ frames := 0, cells := 0, slots := 0, locals := 0 } : Room) D cI cZ [.int p0] [] (S := Unit) (fun z9 _ => F_X2_setOfEighth p0 = z9) (fun _ => []) := by
  refine enterM (cc := cX2_setOfEighth) (maxL := 1) (ret := (some .int)) (own := RX2) (Qc := fun A => va_Qi (S := Unit) (fun z9 _ => F_X2_setOfEighth p0 = z9) (PoB (S := Unit) D A (fun _ => [])) A) (by decide) rfl rfl (Nat.le_of_ble_eq_true rfl) ?_
  intro p e s m below meth c A ls C hK hA hP hD hS hl
  have hx := C.1
  have hb := C.2.1
  have hown := C.2.2.2.1
  have hts := C.2.2.2.2.1
  have _huse := hts
  have hl : lv_has ls 1 [(0, .int p0)] := hl
  refine lv_iload_n hx hb dX2_setOfEighth_0 rfl (lv_at hl 0 rfl) ?_
  refine lv_if_lt (tgt := 10) hx hb dX2_setOfEighth_1 (by decide) (fun c_1 => ?_) (fun c_1 => ?_)
  · refine lv_iconst (v := 0) hx hb dX2_setOfEighth_10 (by decide) ?_
    exact ret_i C () (if_pos c_1) hP hD hS dX2_setOfEighth_11
  · refine lv_iconst (v := 1) hx hb dX2_setOfEighth_4 (by decide) ?_
    refine lv_iload_n hx hb dX2_setOfEighth_5 rfl (lv_at hl 0 rfl) ?_
    refine lv_ishl hx hb dX2_setOfEighth_6 ?_
    refine lv_goto (tgt := 11) hx hb dX2_setOfEighth_7 (by decide) ?_
    exact ret_i C () (if_neg c_1) hP hD hS dX2_setOfEighth_11
def bc1 (a : Int32) : Int32 := a - (((a.toUInt32 >>> ((1 : Int32).toUInt32 &&& Int32.toUInt32 31)).toInt32) &&& 1431655765)
def bc2 (a : Int32) : Int32 := (a &&& 858993459) + (((a.toUInt32 >>> ((2 : Int32).toUInt32 &&& Int32.toUInt32 31)).toInt32) &&& 858993459)
def bc3 (a : Int32) : Int32 := (a + ((a.toUInt32 >>> ((4 : Int32).toUInt32 &&& Int32.toUInt32 31)).toInt32)) &&& 252645135
def bc4 (a : Int32) : Int32 := a + ((a.toUInt32 >>> ((8 : Int32).toUInt32 &&& Int32.toUInt32 31)).toInt32)
def bc5 (a : Int32) : Int32 := a + ((a.toUInt32 >>> ((16 : Int32).toUInt32 &&& Int32.toUInt32 31)).toInt32)
def F_J6_bitCount_0f7a4 (p0 : Int32) : Int32 := (bc5 (bc4 (bc3 (bc2 (bc1 p0))))) &&& 63
set_option maxHeartbeats 4000000 in
set_option maxRecDepth 100000 in
theorem c_J6_bitCount_0f7a4 (l : Launch) (D : va_G) (cI cZ : ClassId) (p0 : Int32) : CTi l yJ6_bitCount_0f7a4 wsJ6_bitCount_0f7a4 ({ frames := 0, cells := 0, slots := 0, locals := 0 } : Room) D cI cZ [.int p0] [] (S := Unit) (fun z9 _ => F_J6_bitCount_0f7a4 p0 = z9) (fun _ => []) := by
  refine enterM (cc := cJ6_bitCount_0f7a4) (maxL := 1) (ret := (some .int)) (own := RJ6) (Qc := fun A => va_Qi (S := Unit) (fun z9 _ => F_J6_bitCount_0f7a4 p0 = z9) (PoB (S := Unit) D A (fun _ => [])) A) (by decide) rfl rfl (Nat.le_of_ble_eq_true rfl) ?_
  intro p e s m below meth c A ls C hK hA hP hD hS hl
  have hx := C.1
  have hb := C.2.1
  have hown := C.2.2.2.1
  have hts := C.2.2.2.2.1
  have _huse := hts
  have hl : lv_has ls 1 [(0, .int p0)] := hl
  refine lv_iload_n hx hb dJ6_bitCount_0f7a4_0 rfl (lv_at hl 0 rfl) ?_
  refine lv_iload_n hx hb dJ6_bitCount_0f7a4_1 rfl (lv_at hl 0 rfl) ?_
  refine lv_iconst (v := 1) hx hb dJ6_bitCount_0f7a4_2 (by decide) ?_
  refine lv_iushr (v := (p0.toUInt32 >>> ((1 : Int32).toUInt32 &&& Int32.toUInt32 31)).toInt32) hx hb dJ6_bitCount_0f7a4_3 rfl ?_
  refine lv_ldcw (v := 1431655765) hx hb hown (hts (.constant RJ6 265 (1431655765)) (List.mem_of_getElem? (i := 1) rfl)) dJ6_bitCount_0f7a4_4 ?_
  refine lv_iand hx hb dJ6_bitCount_0f7a4_7 ?_
  refine lv_isub hx hb dJ6_bitCount_0f7a4_8 ?_
  refine lv_istore_n (lv' := [(0, .int (bc1 p0))]) hx hb dJ6_bitCount_0f7a4_9 rfl hl (by decide) rfl (fun ls hl => ?_)
  refine lv_iload_n hx hb dJ6_bitCount_0f7a4_10 rfl (lv_at hl 0 rfl) ?_
  refine lv_ldcw (v := 858993459) hx hb hown (hts (.constant RJ6 266 (858993459)) (List.mem_of_getElem? (i := 2) rfl)) dJ6_bitCount_0f7a4_11 ?_
  refine lv_iand hx hb dJ6_bitCount_0f7a4_14 ?_
  refine lv_iload_n hx hb dJ6_bitCount_0f7a4_15 rfl (lv_at hl 0 rfl) ?_
  refine lv_iconst (v := 2) hx hb dJ6_bitCount_0f7a4_16 (by decide) ?_
  refine lv_iushr (v := ((bc1 p0).toUInt32 >>> ((2 : Int32).toUInt32 &&& Int32.toUInt32 31)).toInt32) hx hb dJ6_bitCount_0f7a4_17 rfl ?_
  refine lv_ldcw (v := 858993459) hx hb hown (hts (.constant RJ6 266 (858993459)) (List.mem_of_getElem? (i := 2) rfl)) dJ6_bitCount_0f7a4_18 ?_
  refine lv_iand hx hb dJ6_bitCount_0f7a4_21 ?_
  refine lv_iadd hx hb dJ6_bitCount_0f7a4_22 ?_
  refine lv_istore_n (lv' := [(0, .int (bc2 (bc1 p0)))]) hx hb dJ6_bitCount_0f7a4_23 rfl hl (by decide) rfl (fun ls hl => ?_)
  refine lv_iload_n hx hb dJ6_bitCount_0f7a4_24 rfl (lv_at hl 0 rfl) ?_
  refine lv_iload_n hx hb dJ6_bitCount_0f7a4_25 rfl (lv_at hl 0 rfl) ?_
  refine lv_iconst (v := 4) hx hb dJ6_bitCount_0f7a4_26 (by decide) ?_
  refine lv_iushr (v := ((bc2 (bc1 p0)).toUInt32 >>> ((4 : Int32).toUInt32 &&& Int32.toUInt32 31)).toInt32) hx hb dJ6_bitCount_0f7a4_27 rfl ?_
  refine lv_iadd hx hb dJ6_bitCount_0f7a4_28 ?_
  refine lv_ldcw (v := 252645135) hx hb hown (hts (.constant RJ6 267 (252645135)) (List.mem_of_getElem? (i := 3) rfl)) dJ6_bitCount_0f7a4_29 ?_
  refine lv_iand hx hb dJ6_bitCount_0f7a4_32 ?_
  refine lv_istore_n (lv' := [(0, .int (bc3 (bc2 (bc1 p0))))]) hx hb dJ6_bitCount_0f7a4_33 rfl hl (by decide) rfl (fun ls hl => ?_)
  refine lv_iload_n hx hb dJ6_bitCount_0f7a4_34 rfl (lv_at hl 0 rfl) ?_
  refine lv_iload_n hx hb dJ6_bitCount_0f7a4_35 rfl (lv_at hl 0 rfl) ?_
  refine lv_bipush (v := 8) hx hb dJ6_bitCount_0f7a4_36 (by decide) ?_
  refine lv_iushr (v := ((bc3 (bc2 (bc1 p0))).toUInt32 >>> ((8 : Int32).toUInt32 &&& Int32.toUInt32 31)).toInt32) hx hb dJ6_bitCount_0f7a4_38 rfl ?_
  refine lv_iadd hx hb dJ6_bitCount_0f7a4_39 ?_
  refine lv_istore_n (lv' := [(0, .int (bc4 (bc3 (bc2 (bc1 p0)))))]) hx hb dJ6_bitCount_0f7a4_40 rfl hl (by decide) rfl (fun ls hl => ?_)
  refine lv_iload_n hx hb dJ6_bitCount_0f7a4_41 rfl (lv_at hl 0 rfl) ?_
  refine lv_iload_n hx hb dJ6_bitCount_0f7a4_42 rfl (lv_at hl 0 rfl) ?_
  refine lv_bipush (v := 16) hx hb dJ6_bitCount_0f7a4_43 (by decide) ?_
  refine lv_iushr (v := ((bc4 (bc3 (bc2 (bc1 p0)))).toUInt32 >>> ((16 : Int32).toUInt32 &&& Int32.toUInt32 31)).toInt32) hx hb dJ6_bitCount_0f7a4_45 rfl ?_
  refine lv_iadd hx hb dJ6_bitCount_0f7a4_46 ?_
  refine lv_istore_n (lv' := [(0, .int (bc5 (bc4 (bc3 (bc2 (bc1 p0))))))]) hx hb dJ6_bitCount_0f7a4_47 rfl hl (by decide) rfl (fun ls hl => ?_)
  refine lv_iload_n hx hb dJ6_bitCount_0f7a4_48 rfl (lv_at hl 0 rfl) ?_
  refine lv_bipush (v := 63) hx hb dJ6_bitCount_0f7a4_49 (by decide) ?_
  refine lv_iand hx hb dJ6_bitCount_0f7a4_51 ?_
  exact ret_i C () rfl hP hD hS dJ6_bitCount_0f7a4_52
def F_X0_empty (r : Rd) : Rd := (0, 0, 0, 0, 0, 0, 0, 0, 0, r.2.2.2.2.2.2.2.2.2.1, r.2.2.2.2.2.2.2.2.2.2.1, r.2.2.2.2.2.2.2.2.2.2.2.1, r.2.2.2.2.2.2.2.2.2.2.2.2)
theorem iX0_empty_X0 : ∀ w ∈ u_ws RX0 TX0 13, w ∈ wsX0_empty := fun _ h => List.mem_cons_of_mem _ (List.mem_append_right _ (h))
set_option maxHeartbeats 4000000 in
set_option maxRecDepth 100000 in
theorem c_X0_empty (l : Launch) (D : va_G) (cI cZ : ClassId) (h0 : Nat) (r : Rd) : CTv l yX0_empty wsX0_empty ({ frames := 0, cells := 0, slots := 0, locals := 0 } : Room) D cI cZ [.ref h0] [(h0, .inr (0, rdv r))] (S := Rd) (fun u9 => F_X0_empty r = u9) (fun u => [(h0, .inr (0, rdv u))]) := by
  refine enterM (cc := cX0_empty) (maxL := 1) (ret := none) (own := RX0) (Qc := fun A => va_Qv (S := Rd) (fun u9 => F_X0_empty r = u9) (PoB (S := Rd) D A (fun u => [(h0, .inr (0, rdv u))])) A) (by decide) rfl rfl (Nat.le_of_ble_eq_true rfl) ?_
  intro p e s m below meth c A ls C hK hA hP hD hS hl
  have hx := C.1
  have hb := C.2.1
  have hown := C.2.2.2.1
  have hts := C.2.2.2.2.1
  have _huse := hts
  have hl : lv_has ls 1 [(0, .ref h0)] := hl
  refine lv_aload_n hx hb dX0_empty_0 rfl (lv_at hl 0 rfl) ?_
  refine lv_lconst (v := 0) hx hb dX0_empty_1 (by decide) ?_
  refine va_put (D := D) (ci := 0) (v := .long 0) (ty := .long) (C := RX0) (T := TX0) (N := 13) hx hb hts iX0_empty_X0 tyX0 tyX0_ok nmX0 hown hK.1 hP hD hS 0 rfl rfl 0 (by decide) (hts (.fieldLink RX0 9 "CompassBias$Round" "many" "J") (List.mem_of_getElem? (i := 1) rfl)) (fun _ h9 => h9) rfl (by decide +kernel) rfl rfl (Nat.le_of_ble_eq_true rfl) dX0_empty_2 (fun H locs hP hD hS => ?_)
  have hP : va_P D classes [(h0, .inr (0, rdv (0, r.2.1, r.2.2.1, r.2.2.2.1, r.2.2.2.2.1, r.2.2.2.2.2.1, r.2.2.2.2.2.2.1, r.2.2.2.2.2.2.2.1, r.2.2.2.2.2.2.2.2.1, r.2.2.2.2.2.2.2.2.2.1, r.2.2.2.2.2.2.2.2.2.2.1, r.2.2.2.2.2.2.2.2.2.2.2.1, r.2.2.2.2.2.2.2.2.2.2.2.2)))] H := hP
  have hD : va_D A [(h0, .inr (0, rdv (0, r.2.1, r.2.2.1, r.2.2.2.1, r.2.2.2.2.1, r.2.2.2.2.2.1, r.2.2.2.2.2.2.1, r.2.2.2.2.2.2.2.1, r.2.2.2.2.2.2.2.2.1, r.2.2.2.2.2.2.2.2.2.1, r.2.2.2.2.2.2.2.2.2.2.1, r.2.2.2.2.2.2.2.2.2.2.2.1, r.2.2.2.2.2.2.2.2.2.2.2.2)))] := hD
  refine lv_aload_n hx hb dX0_empty_5 rfl (lv_at hl 0 rfl) ?_
  refine lv_lconst (v := 0) hx hb dX0_empty_6 (by decide) ?_
  refine va_put (D := D) (ci := 0) (v := .long 0) (ty := .long) (C := RX0) (T := TX0) (N := 13) hx hb hts iX0_empty_X0 tyX0 tyX0_ok nmX0 hown hK.1 hP hD hS 0 rfl rfl 1 (by decide) (hts (.fieldLink RX0 15 "CompassBias$Round" "sumX" "J") (List.mem_of_getElem? (i := 2) rfl)) (fun _ h9 => h9) rfl (by decide +kernel) rfl rfl (Nat.le_of_ble_eq_true rfl) dX0_empty_7 (fun H locs hP hD hS => ?_)
  have hP : va_P D classes [(h0, .inr (0, rdv (0, 0, r.2.2.1, r.2.2.2.1, r.2.2.2.2.1, r.2.2.2.2.2.1, r.2.2.2.2.2.2.1, r.2.2.2.2.2.2.2.1, r.2.2.2.2.2.2.2.2.1, r.2.2.2.2.2.2.2.2.2.1, r.2.2.2.2.2.2.2.2.2.2.1, r.2.2.2.2.2.2.2.2.2.2.2.1, r.2.2.2.2.2.2.2.2.2.2.2.2)))] H := hP
  have hD : va_D A [(h0, .inr (0, rdv (0, 0, r.2.2.1, r.2.2.2.1, r.2.2.2.2.1, r.2.2.2.2.2.1, r.2.2.2.2.2.2.1, r.2.2.2.2.2.2.2.1, r.2.2.2.2.2.2.2.2.1, r.2.2.2.2.2.2.2.2.2.1, r.2.2.2.2.2.2.2.2.2.2.1, r.2.2.2.2.2.2.2.2.2.2.2.1, r.2.2.2.2.2.2.2.2.2.2.2.2)))] := hD
  refine lv_aload_n hx hb dX0_empty_10 rfl (lv_at hl 0 rfl) ?_
  refine lv_lconst (v := 0) hx hb dX0_empty_11 (by decide) ?_
  refine va_put (D := D) (ci := 0) (v := .long 0) (ty := .long) (C := RX0) (T := TX0) (N := 13) hx hb hts iX0_empty_X0 tyX0 tyX0_ok nmX0 hown hK.1 hP hD hS 0 rfl rfl 2 (by decide) (hts (.fieldLink RX0 18 "CompassBias$Round" "sumY" "J") (List.mem_of_getElem? (i := 3) rfl)) (fun _ h9 => h9) rfl (by decide +kernel) rfl rfl (Nat.le_of_ble_eq_true rfl) dX0_empty_12 (fun H locs hP hD hS => ?_)
  have hP : va_P D classes [(h0, .inr (0, rdv (0, 0, 0, r.2.2.2.1, r.2.2.2.2.1, r.2.2.2.2.2.1, r.2.2.2.2.2.2.1, r.2.2.2.2.2.2.2.1, r.2.2.2.2.2.2.2.2.1, r.2.2.2.2.2.2.2.2.2.1, r.2.2.2.2.2.2.2.2.2.2.1, r.2.2.2.2.2.2.2.2.2.2.2.1, r.2.2.2.2.2.2.2.2.2.2.2.2)))] H := hP
  have hD : va_D A [(h0, .inr (0, rdv (0, 0, 0, r.2.2.2.1, r.2.2.2.2.1, r.2.2.2.2.2.1, r.2.2.2.2.2.2.1, r.2.2.2.2.2.2.2.1, r.2.2.2.2.2.2.2.2.1, r.2.2.2.2.2.2.2.2.2.1, r.2.2.2.2.2.2.2.2.2.2.1, r.2.2.2.2.2.2.2.2.2.2.2.1, r.2.2.2.2.2.2.2.2.2.2.2.2)))] := hD
  refine lv_aload_n hx hb dX0_empty_15 rfl (lv_at hl 0 rfl) ?_
  refine lv_lconst (v := 0) hx hb dX0_empty_16 (by decide) ?_
  refine va_put (D := D) (ci := 0) (v := .long 0) (ty := .long) (C := RX0) (T := TX0) (N := 13) hx hb hts iX0_empty_X0 tyX0 tyX0_ok nmX0 hown hK.1 hP hD hS 0 rfl rfl 3 (by decide) (hts (.fieldLink RX0 21 "CompassBias$Round" "sumXX" "J") (List.mem_of_getElem? (i := 4) rfl)) (fun _ h9 => h9) rfl (by decide +kernel) rfl rfl (Nat.le_of_ble_eq_true rfl) dX0_empty_17 (fun H locs hP hD hS => ?_)
  have hP : va_P D classes [(h0, .inr (0, rdv (0, 0, 0, 0, r.2.2.2.2.1, r.2.2.2.2.2.1, r.2.2.2.2.2.2.1, r.2.2.2.2.2.2.2.1, r.2.2.2.2.2.2.2.2.1, r.2.2.2.2.2.2.2.2.2.1, r.2.2.2.2.2.2.2.2.2.2.1, r.2.2.2.2.2.2.2.2.2.2.2.1, r.2.2.2.2.2.2.2.2.2.2.2.2)))] H := hP
  have hD : va_D A [(h0, .inr (0, rdv (0, 0, 0, 0, r.2.2.2.2.1, r.2.2.2.2.2.1, r.2.2.2.2.2.2.1, r.2.2.2.2.2.2.2.1, r.2.2.2.2.2.2.2.2.1, r.2.2.2.2.2.2.2.2.2.1, r.2.2.2.2.2.2.2.2.2.2.1, r.2.2.2.2.2.2.2.2.2.2.2.1, r.2.2.2.2.2.2.2.2.2.2.2.2)))] := hD
  refine lv_aload_n hx hb dX0_empty_20 rfl (lv_at hl 0 rfl) ?_
  refine lv_lconst (v := 0) hx hb dX0_empty_21 (by decide) ?_
  refine va_put (D := D) (ci := 0) (v := .long 0) (ty := .long) (C := RX0) (T := TX0) (N := 13) hx hb hts iX0_empty_X0 tyX0 tyX0_ok nmX0 hown hK.1 hP hD hS 0 rfl rfl 4 (by decide) (hts (.fieldLink RX0 24 "CompassBias$Round" "sumXY" "J") (List.mem_of_getElem? (i := 5) rfl)) (fun _ h9 => h9) rfl (by decide +kernel) rfl rfl (Nat.le_of_ble_eq_true rfl) dX0_empty_22 (fun H locs hP hD hS => ?_)
  have hP : va_P D classes [(h0, .inr (0, rdv (0, 0, 0, 0, 0, r.2.2.2.2.2.1, r.2.2.2.2.2.2.1, r.2.2.2.2.2.2.2.1, r.2.2.2.2.2.2.2.2.1, r.2.2.2.2.2.2.2.2.2.1, r.2.2.2.2.2.2.2.2.2.2.1, r.2.2.2.2.2.2.2.2.2.2.2.1, r.2.2.2.2.2.2.2.2.2.2.2.2)))] H := hP
  have hD : va_D A [(h0, .inr (0, rdv (0, 0, 0, 0, 0, r.2.2.2.2.2.1, r.2.2.2.2.2.2.1, r.2.2.2.2.2.2.2.1, r.2.2.2.2.2.2.2.2.1, r.2.2.2.2.2.2.2.2.2.1, r.2.2.2.2.2.2.2.2.2.2.1, r.2.2.2.2.2.2.2.2.2.2.2.1, r.2.2.2.2.2.2.2.2.2.2.2.2)))] := hD
  refine lv_aload_n hx hb dX0_empty_25 rfl (lv_at hl 0 rfl) ?_
  refine lv_lconst (v := 0) hx hb dX0_empty_26 (by decide) ?_
  refine va_put (D := D) (ci := 0) (v := .long 0) (ty := .long) (C := RX0) (T := TX0) (N := 13) hx hb hts iX0_empty_X0 tyX0 tyX0_ok nmX0 hown hK.1 hP hD hS 0 rfl rfl 5 (by decide) (hts (.fieldLink RX0 27 "CompassBias$Round" "sumYY" "J") (List.mem_of_getElem? (i := 6) rfl)) (fun _ h9 => h9) rfl (by decide +kernel) rfl rfl (Nat.le_of_ble_eq_true rfl) dX0_empty_27 (fun H locs hP hD hS => ?_)
  have hP : va_P D classes [(h0, .inr (0, rdv (0, 0, 0, 0, 0, 0, r.2.2.2.2.2.2.1, r.2.2.2.2.2.2.2.1, r.2.2.2.2.2.2.2.2.1, r.2.2.2.2.2.2.2.2.2.1, r.2.2.2.2.2.2.2.2.2.2.1, r.2.2.2.2.2.2.2.2.2.2.2.1, r.2.2.2.2.2.2.2.2.2.2.2.2)))] H := hP
  have hD : va_D A [(h0, .inr (0, rdv (0, 0, 0, 0, 0, 0, r.2.2.2.2.2.2.1, r.2.2.2.2.2.2.2.1, r.2.2.2.2.2.2.2.2.1, r.2.2.2.2.2.2.2.2.2.1, r.2.2.2.2.2.2.2.2.2.2.1, r.2.2.2.2.2.2.2.2.2.2.2.1, r.2.2.2.2.2.2.2.2.2.2.2.2)))] := hD
  refine lv_aload_n hx hb dX0_empty_30 rfl (lv_at hl 0 rfl) ?_
  refine lv_lconst (v := 0) hx hb dX0_empty_31 (by decide) ?_
  refine va_put (D := D) (ci := 0) (v := .long 0) (ty := .long) (C := RX0) (T := TX0) (N := 13) hx hb hts iX0_empty_X0 tyX0 tyX0_ok nmX0 hown hK.1 hP hD hS 0 rfl rfl 6 (by decide) (hts (.fieldLink RX0 30 "CompassBias$Round" "sumPower" "J") (List.mem_of_getElem? (i := 7) rfl)) (fun _ h9 => h9) rfl (by decide +kernel) rfl rfl (Nat.le_of_ble_eq_true rfl) dX0_empty_32 (fun H locs hP hD hS => ?_)
  have hP : va_P D classes [(h0, .inr (0, rdv (0, 0, 0, 0, 0, 0, 0, r.2.2.2.2.2.2.2.1, r.2.2.2.2.2.2.2.2.1, r.2.2.2.2.2.2.2.2.2.1, r.2.2.2.2.2.2.2.2.2.2.1, r.2.2.2.2.2.2.2.2.2.2.2.1, r.2.2.2.2.2.2.2.2.2.2.2.2)))] H := hP
  have hD : va_D A [(h0, .inr (0, rdv (0, 0, 0, 0, 0, 0, 0, r.2.2.2.2.2.2.2.1, r.2.2.2.2.2.2.2.2.1, r.2.2.2.2.2.2.2.2.2.1, r.2.2.2.2.2.2.2.2.2.2.1, r.2.2.2.2.2.2.2.2.2.2.2.1, r.2.2.2.2.2.2.2.2.2.2.2.2)))] := hD
  refine lv_aload_n hx hb dX0_empty_35 rfl (lv_at hl 0 rfl) ?_
  refine lv_lconst (v := 0) hx hb dX0_empty_36 (by decide) ?_
  refine va_put (D := D) (ci := 0) (v := .long 0) (ty := .long) (C := RX0) (T := TX0) (N := 13) hx hb hts iX0_empty_X0 tyX0 tyX0_ok nmX0 hown hK.1 hP hD hS 0 rfl rfl 7 (by decide) (hts (.fieldLink RX0 33 "CompassBias$Round" "sumXPower" "J") (List.mem_of_getElem? (i := 8) rfl)) (fun _ h9 => h9) rfl (by decide +kernel) rfl rfl (Nat.le_of_ble_eq_true rfl) dX0_empty_37 (fun H locs hP hD hS => ?_)
  have hP : va_P D classes [(h0, .inr (0, rdv (0, 0, 0, 0, 0, 0, 0, 0, r.2.2.2.2.2.2.2.2.1, r.2.2.2.2.2.2.2.2.2.1, r.2.2.2.2.2.2.2.2.2.2.1, r.2.2.2.2.2.2.2.2.2.2.2.1, r.2.2.2.2.2.2.2.2.2.2.2.2)))] H := hP
  have hD : va_D A [(h0, .inr (0, rdv (0, 0, 0, 0, 0, 0, 0, 0, r.2.2.2.2.2.2.2.2.1, r.2.2.2.2.2.2.2.2.2.1, r.2.2.2.2.2.2.2.2.2.2.1, r.2.2.2.2.2.2.2.2.2.2.2.1, r.2.2.2.2.2.2.2.2.2.2.2.2)))] := hD
  refine lv_aload_n hx hb dX0_empty_40 rfl (lv_at hl 0 rfl) ?_
  refine lv_lconst (v := 0) hx hb dX0_empty_41 (by decide) ?_
  refine va_put (D := D) (ci := 0) (v := .long 0) (ty := .long) (C := RX0) (T := TX0) (N := 13) hx hb hts iX0_empty_X0 tyX0 tyX0_ok nmX0 hown hK.1 hP hD hS 0 rfl rfl 8 (by decide) (hts (.fieldLink RX0 36 "CompassBias$Round" "sumYPower" "J") (List.mem_of_getElem? (i := 9) rfl)) (fun _ h9 => h9) rfl (by decide +kernel) rfl rfl (Nat.le_of_ble_eq_true rfl) dX0_empty_42 (fun H locs hP hD hS => ?_)
  have hP : va_P D classes [(h0, .inr (0, rdv (0, 0, 0, 0, 0, 0, 0, 0, 0, r.2.2.2.2.2.2.2.2.2.1, r.2.2.2.2.2.2.2.2.2.2.1, r.2.2.2.2.2.2.2.2.2.2.2.1, r.2.2.2.2.2.2.2.2.2.2.2.2)))] H := hP
  have hD : va_D A [(h0, .inr (0, rdv (0, 0, 0, 0, 0, 0, 0, 0, 0, r.2.2.2.2.2.2.2.2.2.1, r.2.2.2.2.2.2.2.2.2.2.1, r.2.2.2.2.2.2.2.2.2.2.2.1, r.2.2.2.2.2.2.2.2.2.2.2.2)))] := hD
  exact ret_v C (0, 0, 0, 0, 0, 0, 0, 0, 0, r.2.2.2.2.2.2.2.2.2.1, r.2.2.2.2.2.2.2.2.2.2.1, r.2.2.2.2.2.2.2.2.2.2.2.1, r.2.2.2.2.2.2.2.2.2.2.2.2) rfl hP hD hS dX0_empty_45
def F_X0_startFrom (r : Rd) (o : Rd) : Rd := (o.1, o.2.1, o.2.2.1, o.2.2.2.1, o.2.2.2.2.1, o.2.2.2.2.2.1, o.2.2.2.2.2.2.1, o.2.2.2.2.2.2.2.1, o.2.2.2.2.2.2.2.2.1, r.2.2.2.2.2.2.2.2.2.1, r.2.2.2.2.2.2.2.2.2.2.1, r.2.2.2.2.2.2.2.2.2.2.2.1, r.2.2.2.2.2.2.2.2.2.2.2.2)
theorem iX0_startFrom_X0 : ∀ w ∈ u_ws RX0 TX0 13, w ∈ wsX0_startFrom := fun _ h => List.mem_cons_of_mem _ (List.mem_append_right _ (h))
set_option maxHeartbeats 4000000 in
set_option maxRecDepth 100000 in
theorem c_X0_startFrom (l : Launch) (D : va_G) (cI cZ : ClassId) (h0 h1 : Nat) (r : Rd) (o : Rd) : CTv l yX0_startFrom wsX0_startFrom ({ frames := 0, cells := 0, slots := 0, locals := 0 } : Room) D cI cZ [.ref h0, .ref h1] [(h0, .inr (0, rdv r)), (h1, .inr (0, rdv o))] (S := Rd) (fun u9 => F_X0_startFrom r o = u9) (fun u => [(h0, .inr (0, rdv u)), (h1, .inr (0, rdv o))]) := by
  refine enterM (cc := cX0_startFrom) (maxL := 2) (ret := none) (own := RX0) (Qc := fun A => va_Qv (S := Rd) (fun u9 => F_X0_startFrom r o = u9) (PoB (S := Rd) D A (fun u => [(h0, .inr (0, rdv u)), (h1, .inr (0, rdv o))])) A) (by decide) rfl rfl (Nat.le_of_ble_eq_true rfl) ?_
  intro p e s m below meth c A ls C hK hA hP hD hS hl
  have hx := C.1
  have hb := C.2.1
  have hown := C.2.2.2.1
  have hts := C.2.2.2.2.1
  have _huse := hts
  have hl : lv_has ls 2 [(0, .ref h0), (1, .ref h1)] := hl
  refine lv_aload_n hx hb dX0_startFrom_0 rfl (lv_at hl 0 rfl) ?_
  refine lv_aload_n hx hb dX0_startFrom_1 rfl (lv_at hl 1 rfl) ?_
  refine va_get (D := D) (ci := 0) (v := .long o.1) (C := RX0) (T := TX0) (N := 13) hx hb hts iX0_startFrom_X0 hown hK.1 hP 1 rfl rfl 0 (by decide) (hts (.fieldLink RX0 9 "CompassBias$Round" "many" "J") (List.mem_of_getElem? (i := 1) rfl)) (fun _ h9 => h9) rfl dX0_startFrom_2 ?_
  refine va_put (D := D) (ci := 0) (v := .long o.1) (ty := .long) (C := RX0) (T := TX0) (N := 13) hx hb hts iX0_startFrom_X0 tyX0 tyX0_ok nmX0 hown hK.1 hP hD hS 0 rfl rfl 0 (by decide) (hts (.fieldLink RX0 9 "CompassBias$Round" "many" "J") (List.mem_of_getElem? (i := 1) rfl)) (fun _ h9 => h9) rfl (by decide +kernel) rfl rfl (Nat.le_of_ble_eq_true rfl) dX0_startFrom_5 (fun H locs hP hD hS => ?_)
  have hP : va_P D classes [(h0, .inr (0, rdv (o.1, r.2.1, r.2.2.1, r.2.2.2.1, r.2.2.2.2.1, r.2.2.2.2.2.1, r.2.2.2.2.2.2.1, r.2.2.2.2.2.2.2.1, r.2.2.2.2.2.2.2.2.1, r.2.2.2.2.2.2.2.2.2.1, r.2.2.2.2.2.2.2.2.2.2.1, r.2.2.2.2.2.2.2.2.2.2.2.1, r.2.2.2.2.2.2.2.2.2.2.2.2))), (h1, .inr (0, rdv o))] H := hP
  have hD : va_D A [(h0, .inr (0, rdv (o.1, r.2.1, r.2.2.1, r.2.2.2.1, r.2.2.2.2.1, r.2.2.2.2.2.1, r.2.2.2.2.2.2.1, r.2.2.2.2.2.2.2.1, r.2.2.2.2.2.2.2.2.1, r.2.2.2.2.2.2.2.2.2.1, r.2.2.2.2.2.2.2.2.2.2.1, r.2.2.2.2.2.2.2.2.2.2.2.1, r.2.2.2.2.2.2.2.2.2.2.2.2))), (h1, .inr (0, rdv o))] := hD
  refine lv_aload_n hx hb dX0_startFrom_8 rfl (lv_at hl 0 rfl) ?_
  refine lv_aload_n hx hb dX0_startFrom_9 rfl (lv_at hl 1 rfl) ?_
  refine va_get (D := D) (ci := 0) (v := .long o.2.1) (C := RX0) (T := TX0) (N := 13) hx hb hts iX0_startFrom_X0 hown hK.1 hP 1 rfl rfl 1 (by decide) (hts (.fieldLink RX0 15 "CompassBias$Round" "sumX" "J") (List.mem_of_getElem? (i := 2) rfl)) (fun _ h9 => h9) rfl dX0_startFrom_10 ?_
  refine va_put (D := D) (ci := 0) (v := .long o.2.1) (ty := .long) (C := RX0) (T := TX0) (N := 13) hx hb hts iX0_startFrom_X0 tyX0 tyX0_ok nmX0 hown hK.1 hP hD hS 0 rfl rfl 1 (by decide) (hts (.fieldLink RX0 15 "CompassBias$Round" "sumX" "J") (List.mem_of_getElem? (i := 2) rfl)) (fun _ h9 => h9) rfl (by decide +kernel) rfl rfl (Nat.le_of_ble_eq_true rfl) dX0_startFrom_13 (fun H locs hP hD hS => ?_)
  have hP : va_P D classes [(h0, .inr (0, rdv (o.1, o.2.1, r.2.2.1, r.2.2.2.1, r.2.2.2.2.1, r.2.2.2.2.2.1, r.2.2.2.2.2.2.1, r.2.2.2.2.2.2.2.1, r.2.2.2.2.2.2.2.2.1, r.2.2.2.2.2.2.2.2.2.1, r.2.2.2.2.2.2.2.2.2.2.1, r.2.2.2.2.2.2.2.2.2.2.2.1, r.2.2.2.2.2.2.2.2.2.2.2.2))), (h1, .inr (0, rdv o))] H := hP
  have hD : va_D A [(h0, .inr (0, rdv (o.1, o.2.1, r.2.2.1, r.2.2.2.1, r.2.2.2.2.1, r.2.2.2.2.2.1, r.2.2.2.2.2.2.1, r.2.2.2.2.2.2.2.1, r.2.2.2.2.2.2.2.2.1, r.2.2.2.2.2.2.2.2.2.1, r.2.2.2.2.2.2.2.2.2.2.1, r.2.2.2.2.2.2.2.2.2.2.2.1, r.2.2.2.2.2.2.2.2.2.2.2.2))), (h1, .inr (0, rdv o))] := hD
  refine lv_aload_n hx hb dX0_startFrom_16 rfl (lv_at hl 0 rfl) ?_
  refine lv_aload_n hx hb dX0_startFrom_17 rfl (lv_at hl 1 rfl) ?_
  refine va_get (D := D) (ci := 0) (v := .long o.2.2.1) (C := RX0) (T := TX0) (N := 13) hx hb hts iX0_startFrom_X0 hown hK.1 hP 1 rfl rfl 2 (by decide) (hts (.fieldLink RX0 18 "CompassBias$Round" "sumY" "J") (List.mem_of_getElem? (i := 3) rfl)) (fun _ h9 => h9) rfl dX0_startFrom_18 ?_
  refine va_put (D := D) (ci := 0) (v := .long o.2.2.1) (ty := .long) (C := RX0) (T := TX0) (N := 13) hx hb hts iX0_startFrom_X0 tyX0 tyX0_ok nmX0 hown hK.1 hP hD hS 0 rfl rfl 2 (by decide) (hts (.fieldLink RX0 18 "CompassBias$Round" "sumY" "J") (List.mem_of_getElem? (i := 3) rfl)) (fun _ h9 => h9) rfl (by decide +kernel) rfl rfl (Nat.le_of_ble_eq_true rfl) dX0_startFrom_21 (fun H locs hP hD hS => ?_)
  have hP : va_P D classes [(h0, .inr (0, rdv (o.1, o.2.1, o.2.2.1, r.2.2.2.1, r.2.2.2.2.1, r.2.2.2.2.2.1, r.2.2.2.2.2.2.1, r.2.2.2.2.2.2.2.1, r.2.2.2.2.2.2.2.2.1, r.2.2.2.2.2.2.2.2.2.1, r.2.2.2.2.2.2.2.2.2.2.1, r.2.2.2.2.2.2.2.2.2.2.2.1, r.2.2.2.2.2.2.2.2.2.2.2.2))), (h1, .inr (0, rdv o))] H := hP
  have hD : va_D A [(h0, .inr (0, rdv (o.1, o.2.1, o.2.2.1, r.2.2.2.1, r.2.2.2.2.1, r.2.2.2.2.2.1, r.2.2.2.2.2.2.1, r.2.2.2.2.2.2.2.1, r.2.2.2.2.2.2.2.2.1, r.2.2.2.2.2.2.2.2.2.1, r.2.2.2.2.2.2.2.2.2.2.1, r.2.2.2.2.2.2.2.2.2.2.2.1, r.2.2.2.2.2.2.2.2.2.2.2.2))), (h1, .inr (0, rdv o))] := hD
  refine lv_aload_n hx hb dX0_startFrom_24 rfl (lv_at hl 0 rfl) ?_
  refine lv_aload_n hx hb dX0_startFrom_25 rfl (lv_at hl 1 rfl) ?_
  refine va_get (D := D) (ci := 0) (v := .long o.2.2.2.1) (C := RX0) (T := TX0) (N := 13) hx hb hts iX0_startFrom_X0 hown hK.1 hP 1 rfl rfl 3 (by decide) (hts (.fieldLink RX0 21 "CompassBias$Round" "sumXX" "J") (List.mem_of_getElem? (i := 4) rfl)) (fun _ h9 => h9) rfl dX0_startFrom_26 ?_
  refine va_put (D := D) (ci := 0) (v := .long o.2.2.2.1) (ty := .long) (C := RX0) (T := TX0) (N := 13) hx hb hts iX0_startFrom_X0 tyX0 tyX0_ok nmX0 hown hK.1 hP hD hS 0 rfl rfl 3 (by decide) (hts (.fieldLink RX0 21 "CompassBias$Round" "sumXX" "J") (List.mem_of_getElem? (i := 4) rfl)) (fun _ h9 => h9) rfl (by decide +kernel) rfl rfl (Nat.le_of_ble_eq_true rfl) dX0_startFrom_29 (fun H locs hP hD hS => ?_)
  have hP : va_P D classes [(h0, .inr (0, rdv (o.1, o.2.1, o.2.2.1, o.2.2.2.1, r.2.2.2.2.1, r.2.2.2.2.2.1, r.2.2.2.2.2.2.1, r.2.2.2.2.2.2.2.1, r.2.2.2.2.2.2.2.2.1, r.2.2.2.2.2.2.2.2.2.1, r.2.2.2.2.2.2.2.2.2.2.1, r.2.2.2.2.2.2.2.2.2.2.2.1, r.2.2.2.2.2.2.2.2.2.2.2.2))), (h1, .inr (0, rdv o))] H := hP
  have hD : va_D A [(h0, .inr (0, rdv (o.1, o.2.1, o.2.2.1, o.2.2.2.1, r.2.2.2.2.1, r.2.2.2.2.2.1, r.2.2.2.2.2.2.1, r.2.2.2.2.2.2.2.1, r.2.2.2.2.2.2.2.2.1, r.2.2.2.2.2.2.2.2.2.1, r.2.2.2.2.2.2.2.2.2.2.1, r.2.2.2.2.2.2.2.2.2.2.2.1, r.2.2.2.2.2.2.2.2.2.2.2.2))), (h1, .inr (0, rdv o))] := hD
  refine lv_aload_n hx hb dX0_startFrom_32 rfl (lv_at hl 0 rfl) ?_
  refine lv_aload_n hx hb dX0_startFrom_33 rfl (lv_at hl 1 rfl) ?_
  refine va_get (D := D) (ci := 0) (v := .long o.2.2.2.2.1) (C := RX0) (T := TX0) (N := 13) hx hb hts iX0_startFrom_X0 hown hK.1 hP 1 rfl rfl 4 (by decide) (hts (.fieldLink RX0 24 "CompassBias$Round" "sumXY" "J") (List.mem_of_getElem? (i := 5) rfl)) (fun _ h9 => h9) rfl dX0_startFrom_34 ?_
  refine va_put (D := D) (ci := 0) (v := .long o.2.2.2.2.1) (ty := .long) (C := RX0) (T := TX0) (N := 13) hx hb hts iX0_startFrom_X0 tyX0 tyX0_ok nmX0 hown hK.1 hP hD hS 0 rfl rfl 4 (by decide) (hts (.fieldLink RX0 24 "CompassBias$Round" "sumXY" "J") (List.mem_of_getElem? (i := 5) rfl)) (fun _ h9 => h9) rfl (by decide +kernel) rfl rfl (Nat.le_of_ble_eq_true rfl) dX0_startFrom_37 (fun H locs hP hD hS => ?_)
  have hP : va_P D classes [(h0, .inr (0, rdv (o.1, o.2.1, o.2.2.1, o.2.2.2.1, o.2.2.2.2.1, r.2.2.2.2.2.1, r.2.2.2.2.2.2.1, r.2.2.2.2.2.2.2.1, r.2.2.2.2.2.2.2.2.1, r.2.2.2.2.2.2.2.2.2.1, r.2.2.2.2.2.2.2.2.2.2.1, r.2.2.2.2.2.2.2.2.2.2.2.1, r.2.2.2.2.2.2.2.2.2.2.2.2))), (h1, .inr (0, rdv o))] H := hP
  have hD : va_D A [(h0, .inr (0, rdv (o.1, o.2.1, o.2.2.1, o.2.2.2.1, o.2.2.2.2.1, r.2.2.2.2.2.1, r.2.2.2.2.2.2.1, r.2.2.2.2.2.2.2.1, r.2.2.2.2.2.2.2.2.1, r.2.2.2.2.2.2.2.2.2.1, r.2.2.2.2.2.2.2.2.2.2.1, r.2.2.2.2.2.2.2.2.2.2.2.1, r.2.2.2.2.2.2.2.2.2.2.2.2))), (h1, .inr (0, rdv o))] := hD
  refine lv_aload_n hx hb dX0_startFrom_40 rfl (lv_at hl 0 rfl) ?_
  refine lv_aload_n hx hb dX0_startFrom_41 rfl (lv_at hl 1 rfl) ?_
  refine va_get (D := D) (ci := 0) (v := .long o.2.2.2.2.2.1) (C := RX0) (T := TX0) (N := 13) hx hb hts iX0_startFrom_X0 hown hK.1 hP 1 rfl rfl 5 (by decide) (hts (.fieldLink RX0 27 "CompassBias$Round" "sumYY" "J") (List.mem_of_getElem? (i := 6) rfl)) (fun _ h9 => h9) rfl dX0_startFrom_42 ?_
  refine va_put (D := D) (ci := 0) (v := .long o.2.2.2.2.2.1) (ty := .long) (C := RX0) (T := TX0) (N := 13) hx hb hts iX0_startFrom_X0 tyX0 tyX0_ok nmX0 hown hK.1 hP hD hS 0 rfl rfl 5 (by decide) (hts (.fieldLink RX0 27 "CompassBias$Round" "sumYY" "J") (List.mem_of_getElem? (i := 6) rfl)) (fun _ h9 => h9) rfl (by decide +kernel) rfl rfl (Nat.le_of_ble_eq_true rfl) dX0_startFrom_45 (fun H locs hP hD hS => ?_)
  have hP : va_P D classes [(h0, .inr (0, rdv (o.1, o.2.1, o.2.2.1, o.2.2.2.1, o.2.2.2.2.1, o.2.2.2.2.2.1, r.2.2.2.2.2.2.1, r.2.2.2.2.2.2.2.1, r.2.2.2.2.2.2.2.2.1, r.2.2.2.2.2.2.2.2.2.1, r.2.2.2.2.2.2.2.2.2.2.1, r.2.2.2.2.2.2.2.2.2.2.2.1, r.2.2.2.2.2.2.2.2.2.2.2.2))), (h1, .inr (0, rdv o))] H := hP
  have hD : va_D A [(h0, .inr (0, rdv (o.1, o.2.1, o.2.2.1, o.2.2.2.1, o.2.2.2.2.1, o.2.2.2.2.2.1, r.2.2.2.2.2.2.1, r.2.2.2.2.2.2.2.1, r.2.2.2.2.2.2.2.2.1, r.2.2.2.2.2.2.2.2.2.1, r.2.2.2.2.2.2.2.2.2.2.1, r.2.2.2.2.2.2.2.2.2.2.2.1, r.2.2.2.2.2.2.2.2.2.2.2.2))), (h1, .inr (0, rdv o))] := hD
  refine lv_aload_n hx hb dX0_startFrom_48 rfl (lv_at hl 0 rfl) ?_
  refine lv_aload_n hx hb dX0_startFrom_49 rfl (lv_at hl 1 rfl) ?_
  refine va_get (D := D) (ci := 0) (v := .long o.2.2.2.2.2.2.1) (C := RX0) (T := TX0) (N := 13) hx hb hts iX0_startFrom_X0 hown hK.1 hP 1 rfl rfl 6 (by decide) (hts (.fieldLink RX0 30 "CompassBias$Round" "sumPower" "J") (List.mem_of_getElem? (i := 7) rfl)) (fun _ h9 => h9) rfl dX0_startFrom_50 ?_
  refine va_put (D := D) (ci := 0) (v := .long o.2.2.2.2.2.2.1) (ty := .long) (C := RX0) (T := TX0) (N := 13) hx hb hts iX0_startFrom_X0 tyX0 tyX0_ok nmX0 hown hK.1 hP hD hS 0 rfl rfl 6 (by decide) (hts (.fieldLink RX0 30 "CompassBias$Round" "sumPower" "J") (List.mem_of_getElem? (i := 7) rfl)) (fun _ h9 => h9) rfl (by decide +kernel) rfl rfl (Nat.le_of_ble_eq_true rfl) dX0_startFrom_53 (fun H locs hP hD hS => ?_)
  have hP : va_P D classes [(h0, .inr (0, rdv (o.1, o.2.1, o.2.2.1, o.2.2.2.1, o.2.2.2.2.1, o.2.2.2.2.2.1, o.2.2.2.2.2.2.1, r.2.2.2.2.2.2.2.1, r.2.2.2.2.2.2.2.2.1, r.2.2.2.2.2.2.2.2.2.1, r.2.2.2.2.2.2.2.2.2.2.1, r.2.2.2.2.2.2.2.2.2.2.2.1, r.2.2.2.2.2.2.2.2.2.2.2.2))), (h1, .inr (0, rdv o))] H := hP
  have hD : va_D A [(h0, .inr (0, rdv (o.1, o.2.1, o.2.2.1, o.2.2.2.1, o.2.2.2.2.1, o.2.2.2.2.2.1, o.2.2.2.2.2.2.1, r.2.2.2.2.2.2.2.1, r.2.2.2.2.2.2.2.2.1, r.2.2.2.2.2.2.2.2.2.1, r.2.2.2.2.2.2.2.2.2.2.1, r.2.2.2.2.2.2.2.2.2.2.2.1, r.2.2.2.2.2.2.2.2.2.2.2.2))), (h1, .inr (0, rdv o))] := hD
  refine lv_aload_n hx hb dX0_startFrom_56 rfl (lv_at hl 0 rfl) ?_
  refine lv_aload_n hx hb dX0_startFrom_57 rfl (lv_at hl 1 rfl) ?_
  refine va_get (D := D) (ci := 0) (v := .long o.2.2.2.2.2.2.2.1) (C := RX0) (T := TX0) (N := 13) hx hb hts iX0_startFrom_X0 hown hK.1 hP 1 rfl rfl 7 (by decide) (hts (.fieldLink RX0 33 "CompassBias$Round" "sumXPower" "J") (List.mem_of_getElem? (i := 8) rfl)) (fun _ h9 => h9) rfl dX0_startFrom_58 ?_
  refine va_put (D := D) (ci := 0) (v := .long o.2.2.2.2.2.2.2.1) (ty := .long) (C := RX0) (T := TX0) (N := 13) hx hb hts iX0_startFrom_X0 tyX0 tyX0_ok nmX0 hown hK.1 hP hD hS 0 rfl rfl 7 (by decide) (hts (.fieldLink RX0 33 "CompassBias$Round" "sumXPower" "J") (List.mem_of_getElem? (i := 8) rfl)) (fun _ h9 => h9) rfl (by decide +kernel) rfl rfl (Nat.le_of_ble_eq_true rfl) dX0_startFrom_61 (fun H locs hP hD hS => ?_)
  have hP : va_P D classes [(h0, .inr (0, rdv (o.1, o.2.1, o.2.2.1, o.2.2.2.1, o.2.2.2.2.1, o.2.2.2.2.2.1, o.2.2.2.2.2.2.1, o.2.2.2.2.2.2.2.1, r.2.2.2.2.2.2.2.2.1, r.2.2.2.2.2.2.2.2.2.1, r.2.2.2.2.2.2.2.2.2.2.1, r.2.2.2.2.2.2.2.2.2.2.2.1, r.2.2.2.2.2.2.2.2.2.2.2.2))), (h1, .inr (0, rdv o))] H := hP
  have hD : va_D A [(h0, .inr (0, rdv (o.1, o.2.1, o.2.2.1, o.2.2.2.1, o.2.2.2.2.1, o.2.2.2.2.2.1, o.2.2.2.2.2.2.1, o.2.2.2.2.2.2.2.1, r.2.2.2.2.2.2.2.2.1, r.2.2.2.2.2.2.2.2.2.1, r.2.2.2.2.2.2.2.2.2.2.1, r.2.2.2.2.2.2.2.2.2.2.2.1, r.2.2.2.2.2.2.2.2.2.2.2.2))), (h1, .inr (0, rdv o))] := hD
  refine lv_aload_n hx hb dX0_startFrom_64 rfl (lv_at hl 0 rfl) ?_
  refine lv_aload_n hx hb dX0_startFrom_65 rfl (lv_at hl 1 rfl) ?_
  refine va_get (D := D) (ci := 0) (v := .long o.2.2.2.2.2.2.2.2.1) (C := RX0) (T := TX0) (N := 13) hx hb hts iX0_startFrom_X0 hown hK.1 hP 1 rfl rfl 8 (by decide) (hts (.fieldLink RX0 36 "CompassBias$Round" "sumYPower" "J") (List.mem_of_getElem? (i := 9) rfl)) (fun _ h9 => h9) rfl dX0_startFrom_66 ?_
  refine va_put (D := D) (ci := 0) (v := .long o.2.2.2.2.2.2.2.2.1) (ty := .long) (C := RX0) (T := TX0) (N := 13) hx hb hts iX0_startFrom_X0 tyX0 tyX0_ok nmX0 hown hK.1 hP hD hS 0 rfl rfl 8 (by decide) (hts (.fieldLink RX0 36 "CompassBias$Round" "sumYPower" "J") (List.mem_of_getElem? (i := 9) rfl)) (fun _ h9 => h9) rfl (by decide +kernel) rfl rfl (Nat.le_of_ble_eq_true rfl) dX0_startFrom_69 (fun H locs hP hD hS => ?_)
  have hP : va_P D classes [(h0, .inr (0, rdv (o.1, o.2.1, o.2.2.1, o.2.2.2.1, o.2.2.2.2.1, o.2.2.2.2.2.1, o.2.2.2.2.2.2.1, o.2.2.2.2.2.2.2.1, o.2.2.2.2.2.2.2.2.1, r.2.2.2.2.2.2.2.2.2.1, r.2.2.2.2.2.2.2.2.2.2.1, r.2.2.2.2.2.2.2.2.2.2.2.1, r.2.2.2.2.2.2.2.2.2.2.2.2))), (h1, .inr (0, rdv o))] H := hP
  have hD : va_D A [(h0, .inr (0, rdv (o.1, o.2.1, o.2.2.1, o.2.2.2.1, o.2.2.2.2.1, o.2.2.2.2.2.1, o.2.2.2.2.2.2.1, o.2.2.2.2.2.2.2.1, o.2.2.2.2.2.2.2.2.1, r.2.2.2.2.2.2.2.2.2.1, r.2.2.2.2.2.2.2.2.2.2.1, r.2.2.2.2.2.2.2.2.2.2.2.1, r.2.2.2.2.2.2.2.2.2.2.2.2))), (h1, .inr (0, rdv o))] := hD
  exact ret_v C (o.1, o.2.1, o.2.2.1, o.2.2.2.1, o.2.2.2.2.1, o.2.2.2.2.2.1, o.2.2.2.2.2.2.1, o.2.2.2.2.2.2.2.1, o.2.2.2.2.2.2.2.2.1, r.2.2.2.2.2.2.2.2.2.1, r.2.2.2.2.2.2.2.2.2.2.1, r.2.2.2.2.2.2.2.2.2.2.2.1, r.2.2.2.2.2.2.2.2.2.2.2.2) rfl hP hD hS dX0_startFrom_72
def F_X0_include (r : Rd) (p0 : Int32) (p1 : Int32) : Rd := (r.1 + 1, r.2.1 + p0.toInt64, r.2.2.1 + p1.toInt64, r.2.2.2.1 + ((p0 * p0).toInt64), r.2.2.2.2.1 + ((p0 * p1).toInt64), r.2.2.2.2.2.1 + ((p1 * p1).toInt64), r.2.2.2.2.2.2.1 + ((F_X2_powerAt p0 p1).toInt64), r.2.2.2.2.2.2.2.1 + ((p0 * (F_X2_powerAt p0 p1)).toInt64), r.2.2.2.2.2.2.2.2.1 + ((p1 * (F_X2_powerAt p0 p1)).toInt64), r.2.2.2.2.2.2.2.2.2.1, r.2.2.2.2.2.2.2.2.2.2.1, r.2.2.2.2.2.2.2.2.2.2.2.1, r.2.2.2.2.2.2.2.2.2.2.2.2)
theorem iX0_include_X0 : ∀ w ∈ u_ws RX0 TX0 13, w ∈ wsX0_include := fun _ h => List.mem_cons_of_mem _ (List.mem_append_right _ (h))
set_option maxHeartbeats 4000000 in
set_option maxRecDepth 100000 in
theorem c_X0_include (l : Launch) (D : va_G) (cI cZ : ClassId) (h0 : Nat) (r : Rd) (p0 : Int32) (p1 : Int32) : CTv l yX0_include wsX0_include ({ frames := 1, cells := 0, slots := 0, locals := 21 } : Room) D cI cZ [.ref h0, .int p0, .int p1] [(h0, .inr (0, rdv r))] (S := Rd) (fun u9 => F_X0_include r p0 p1 = u9) (fun u => [(h0, .inr (0, rdv u))]) := by
  refine enterM (cc := cX0_include) (maxL := 4) (ret := none) (own := RX0) (Qc := fun A => va_Qv (S := Rd) (fun u9 => F_X0_include r p0 p1 = u9) (PoB (S := Rd) D A (fun u => [(h0, .inr (0, rdv u))])) A) (by decide) rfl rfl (Nat.le_of_ble_eq_true rfl) ?_
  intro p e s m below meth c A ls C hK hA hP hD hS hl
  have hx := C.1
  have hb := C.2.1
  have hown := C.2.2.2.1
  have hts := C.2.2.2.2.1
  have _huse := hts
  have hl : lv_has ls 4 [(0, .ref h0), (1, .int p0), (2, .int p1)] := hl
  refine lv_iload_n hx hb dX0_include_0 rfl (lv_at hl 1 rfl) ?_
  refine lv_iload_n hx hb dX0_include_1 rfl (lv_at hl 2 rfl) ?_
  refine aft_i (wr := [(h0, .inr (0, rdv r))]) (run_SN (As := [.int p0, .int p1]) (rest := []) C (c_X2_powerAt l D cI cZ p0 p1) ⟨va_cnB 2 hts gX0_include_X2_powerAt_n39 rfl rfl rfl hK.2 (hts (.initialized RX2) (List.mem_of_getElem? (i := 11) rfl)) (by decide +kernel) ⟨Nat.le_of_ble_eq_true rfl, Nat.le_of_ble_eq_true rfl⟩, (hts (.static yX2_powerAt) (List.mem_of_getElem? (i := 10) rfl)), trivial⟩ hK (hP.sub (ws' := []) [] rfl) (hD.sub (ws' := []) [] (by decide) rfl) rfl hl.1 rfl (Nat.le_of_ble_eq_true rfl) dX0_include_2 (Nat.zero_le _) (Nat.zero_le _)) hP hD hS hA [] [0] rfl rfl (by decide) (by decide) (fun r u H locs hw hP hD hS => ?_)
  subst hw
  have hP : va_P D classes [(h0, .inr (0, rdv r))] H := hP
  have hD : va_D A [(h0, .inr (0, rdv r))] := hD
  refine lv_istore_n (lv' := [(3, .int (F_X2_powerAt p0 p1)), (0, .ref h0), (1, .int p0), (2, .int p1)]) hx hb dX0_include_5 rfl hl (by decide) rfl (fun ls hl => ?_)
  refine lv_aload_n hx hb dX0_include_6 rfl (lv_at hl 1 rfl) ?_
  refine lv_dup hx hb dX0_include_7 rfl ?_
  refine va_get (D := D) (ci := 0) (v := .long r.1) (C := RX0) (T := TX0) (N := 13) hx hb hts iX0_include_X0 hown hK.1 hP 0 rfl rfl 0 (by decide) (hts (.fieldLink RX0 9 "CompassBias$Round" "many" "J") (List.mem_of_getElem? (i := 1) rfl)) (fun _ h9 => h9) rfl dX0_include_8 ?_
  refine lv_lconst (v := 1) hx hb dX0_include_11 (by decide) ?_
  refine lv_ladd hx hb dX0_include_12 ?_
  refine va_put (D := D) (ci := 0) (v := .long (r.1 + 1)) (ty := .long) (C := RX0) (T := TX0) (N := 13) hx hb hts iX0_include_X0 tyX0 tyX0_ok nmX0 hown hK.1 hP hD hS 0 rfl rfl 0 (by decide) (hts (.fieldLink RX0 9 "CompassBias$Round" "many" "J") (List.mem_of_getElem? (i := 1) rfl)) (fun _ h9 => h9) rfl (by decide +kernel) rfl rfl (Nat.le_of_ble_eq_true rfl) dX0_include_13 (fun H locs hP hD hS => ?_)
  have hP : va_P D classes [(h0, .inr (0, rdv (r.1 + 1, r.2.1, r.2.2.1, r.2.2.2.1, r.2.2.2.2.1, r.2.2.2.2.2.1, r.2.2.2.2.2.2.1, r.2.2.2.2.2.2.2.1, r.2.2.2.2.2.2.2.2.1, r.2.2.2.2.2.2.2.2.2.1, r.2.2.2.2.2.2.2.2.2.2.1, r.2.2.2.2.2.2.2.2.2.2.2.1, r.2.2.2.2.2.2.2.2.2.2.2.2)))] H := hP
  have hD : va_D A [(h0, .inr (0, rdv (r.1 + 1, r.2.1, r.2.2.1, r.2.2.2.1, r.2.2.2.2.1, r.2.2.2.2.2.1, r.2.2.2.2.2.2.1, r.2.2.2.2.2.2.2.1, r.2.2.2.2.2.2.2.2.1, r.2.2.2.2.2.2.2.2.2.1, r.2.2.2.2.2.2.2.2.2.2.1, r.2.2.2.2.2.2.2.2.2.2.2.1, r.2.2.2.2.2.2.2.2.2.2.2.2)))] := hD
  refine lv_aload_n hx hb dX0_include_16 rfl (lv_at hl 1 rfl) ?_
  refine lv_dup hx hb dX0_include_17 rfl ?_
  refine va_get (D := D) (ci := 0) (v := .long r.2.1) (C := RX0) (T := TX0) (N := 13) hx hb hts iX0_include_X0 hown hK.1 hP 0 rfl rfl 1 (by decide) (hts (.fieldLink RX0 15 "CompassBias$Round" "sumX" "J") (List.mem_of_getElem? (i := 2) rfl)) (fun _ h9 => h9) rfl dX0_include_18 ?_
  refine lv_iload_n hx hb dX0_include_21 rfl (lv_at hl 2 rfl) ?_
  refine lv_i2l (v := p0.toInt64) hx hb dX0_include_22 rfl ?_
  refine lv_ladd hx hb dX0_include_23 ?_
  refine va_put (D := D) (ci := 0) (v := .long (r.2.1 + p0.toInt64)) (ty := .long) (C := RX0) (T := TX0) (N := 13) hx hb hts iX0_include_X0 tyX0 tyX0_ok nmX0 hown hK.1 hP hD hS 0 rfl rfl 1 (by decide) (hts (.fieldLink RX0 15 "CompassBias$Round" "sumX" "J") (List.mem_of_getElem? (i := 2) rfl)) (fun _ h9 => h9) rfl (by decide +kernel) rfl rfl (Nat.le_of_ble_eq_true rfl) dX0_include_24 (fun H locs hP hD hS => ?_)
  have hP : va_P D classes [(h0, .inr (0, rdv (r.1 + 1, r.2.1 + p0.toInt64, r.2.2.1, r.2.2.2.1, r.2.2.2.2.1, r.2.2.2.2.2.1, r.2.2.2.2.2.2.1, r.2.2.2.2.2.2.2.1, r.2.2.2.2.2.2.2.2.1, r.2.2.2.2.2.2.2.2.2.1, r.2.2.2.2.2.2.2.2.2.2.1, r.2.2.2.2.2.2.2.2.2.2.2.1, r.2.2.2.2.2.2.2.2.2.2.2.2)))] H := hP
  have hD : va_D A [(h0, .inr (0, rdv (r.1 + 1, r.2.1 + p0.toInt64, r.2.2.1, r.2.2.2.1, r.2.2.2.2.1, r.2.2.2.2.2.1, r.2.2.2.2.2.2.1, r.2.2.2.2.2.2.2.1, r.2.2.2.2.2.2.2.2.1, r.2.2.2.2.2.2.2.2.2.1, r.2.2.2.2.2.2.2.2.2.2.1, r.2.2.2.2.2.2.2.2.2.2.2.1, r.2.2.2.2.2.2.2.2.2.2.2.2)))] := hD
  refine lv_aload_n hx hb dX0_include_27 rfl (lv_at hl 1 rfl) ?_
  refine lv_dup hx hb dX0_include_28 rfl ?_
  refine va_get (D := D) (ci := 0) (v := .long r.2.2.1) (C := RX0) (T := TX0) (N := 13) hx hb hts iX0_include_X0 hown hK.1 hP 0 rfl rfl 2 (by decide) (hts (.fieldLink RX0 18 "CompassBias$Round" "sumY" "J") (List.mem_of_getElem? (i := 3) rfl)) (fun _ h9 => h9) rfl dX0_include_29 ?_
  refine lv_iload_n hx hb dX0_include_32 rfl (lv_at hl 3 rfl) ?_
  refine lv_i2l (v := p1.toInt64) hx hb dX0_include_33 rfl ?_
  refine lv_ladd hx hb dX0_include_34 ?_
  refine va_put (D := D) (ci := 0) (v := .long (r.2.2.1 + p1.toInt64)) (ty := .long) (C := RX0) (T := TX0) (N := 13) hx hb hts iX0_include_X0 tyX0 tyX0_ok nmX0 hown hK.1 hP hD hS 0 rfl rfl 2 (by decide) (hts (.fieldLink RX0 18 "CompassBias$Round" "sumY" "J") (List.mem_of_getElem? (i := 3) rfl)) (fun _ h9 => h9) rfl (by decide +kernel) rfl rfl (Nat.le_of_ble_eq_true rfl) dX0_include_35 (fun H locs hP hD hS => ?_)
  have hP : va_P D classes [(h0, .inr (0, rdv (r.1 + 1, r.2.1 + p0.toInt64, r.2.2.1 + p1.toInt64, r.2.2.2.1, r.2.2.2.2.1, r.2.2.2.2.2.1, r.2.2.2.2.2.2.1, r.2.2.2.2.2.2.2.1, r.2.2.2.2.2.2.2.2.1, r.2.2.2.2.2.2.2.2.2.1, r.2.2.2.2.2.2.2.2.2.2.1, r.2.2.2.2.2.2.2.2.2.2.2.1, r.2.2.2.2.2.2.2.2.2.2.2.2)))] H := hP
  have hD : va_D A [(h0, .inr (0, rdv (r.1 + 1, r.2.1 + p0.toInt64, r.2.2.1 + p1.toInt64, r.2.2.2.1, r.2.2.2.2.1, r.2.2.2.2.2.1, r.2.2.2.2.2.2.1, r.2.2.2.2.2.2.2.1, r.2.2.2.2.2.2.2.2.1, r.2.2.2.2.2.2.2.2.2.1, r.2.2.2.2.2.2.2.2.2.2.1, r.2.2.2.2.2.2.2.2.2.2.2.1, r.2.2.2.2.2.2.2.2.2.2.2.2)))] := hD
  refine lv_aload_n hx hb dX0_include_38 rfl (lv_at hl 1 rfl) ?_
  refine lv_dup hx hb dX0_include_39 rfl ?_
  refine va_get (D := D) (ci := 0) (v := .long r.2.2.2.1) (C := RX0) (T := TX0) (N := 13) hx hb hts iX0_include_X0 hown hK.1 hP 0 rfl rfl 3 (by decide) (hts (.fieldLink RX0 21 "CompassBias$Round" "sumXX" "J") (List.mem_of_getElem? (i := 4) rfl)) (fun _ h9 => h9) rfl dX0_include_40 ?_
  refine lv_iload_n hx hb dX0_include_43 rfl (lv_at hl 2 rfl) ?_
  refine lv_iload_n hx hb dX0_include_44 rfl (lv_at hl 2 rfl) ?_
  refine lv_imul hx hb dX0_include_45 ?_
  refine lv_i2l (v := (p0 * p0).toInt64) hx hb dX0_include_46 rfl ?_
  refine lv_ladd hx hb dX0_include_47 ?_
  refine va_put (D := D) (ci := 0) (v := .long (r.2.2.2.1 + ((p0 * p0).toInt64))) (ty := .long) (C := RX0) (T := TX0) (N := 13) hx hb hts iX0_include_X0 tyX0 tyX0_ok nmX0 hown hK.1 hP hD hS 0 rfl rfl 3 (by decide) (hts (.fieldLink RX0 21 "CompassBias$Round" "sumXX" "J") (List.mem_of_getElem? (i := 4) rfl)) (fun _ h9 => h9) rfl (by decide +kernel) rfl rfl (Nat.le_of_ble_eq_true rfl) dX0_include_48 (fun H locs hP hD hS => ?_)
  have hP : va_P D classes [(h0, .inr (0, rdv (r.1 + 1, r.2.1 + p0.toInt64, r.2.2.1 + p1.toInt64, r.2.2.2.1 + ((p0 * p0).toInt64), r.2.2.2.2.1, r.2.2.2.2.2.1, r.2.2.2.2.2.2.1, r.2.2.2.2.2.2.2.1, r.2.2.2.2.2.2.2.2.1, r.2.2.2.2.2.2.2.2.2.1, r.2.2.2.2.2.2.2.2.2.2.1, r.2.2.2.2.2.2.2.2.2.2.2.1, r.2.2.2.2.2.2.2.2.2.2.2.2)))] H := hP
  have hD : va_D A [(h0, .inr (0, rdv (r.1 + 1, r.2.1 + p0.toInt64, r.2.2.1 + p1.toInt64, r.2.2.2.1 + ((p0 * p0).toInt64), r.2.2.2.2.1, r.2.2.2.2.2.1, r.2.2.2.2.2.2.1, r.2.2.2.2.2.2.2.1, r.2.2.2.2.2.2.2.2.1, r.2.2.2.2.2.2.2.2.2.1, r.2.2.2.2.2.2.2.2.2.2.1, r.2.2.2.2.2.2.2.2.2.2.2.1, r.2.2.2.2.2.2.2.2.2.2.2.2)))] := hD
  refine lv_aload_n hx hb dX0_include_51 rfl (lv_at hl 1 rfl) ?_
  refine lv_dup hx hb dX0_include_52 rfl ?_
  refine va_get (D := D) (ci := 0) (v := .long r.2.2.2.2.1) (C := RX0) (T := TX0) (N := 13) hx hb hts iX0_include_X0 hown hK.1 hP 0 rfl rfl 4 (by decide) (hts (.fieldLink RX0 24 "CompassBias$Round" "sumXY" "J") (List.mem_of_getElem? (i := 5) rfl)) (fun _ h9 => h9) rfl dX0_include_53 ?_
  refine lv_iload_n hx hb dX0_include_56 rfl (lv_at hl 2 rfl) ?_
  refine lv_iload_n hx hb dX0_include_57 rfl (lv_at hl 3 rfl) ?_
  refine lv_imul hx hb dX0_include_58 ?_
  refine lv_i2l (v := (p0 * p1).toInt64) hx hb dX0_include_59 rfl ?_
  refine lv_ladd hx hb dX0_include_60 ?_
  refine va_put (D := D) (ci := 0) (v := .long (r.2.2.2.2.1 + ((p0 * p1).toInt64))) (ty := .long) (C := RX0) (T := TX0) (N := 13) hx hb hts iX0_include_X0 tyX0 tyX0_ok nmX0 hown hK.1 hP hD hS 0 rfl rfl 4 (by decide) (hts (.fieldLink RX0 24 "CompassBias$Round" "sumXY" "J") (List.mem_of_getElem? (i := 5) rfl)) (fun _ h9 => h9) rfl (by decide +kernel) rfl rfl (Nat.le_of_ble_eq_true rfl) dX0_include_61 (fun H locs hP hD hS => ?_)
  have hP : va_P D classes [(h0, .inr (0, rdv (r.1 + 1, r.2.1 + p0.toInt64, r.2.2.1 + p1.toInt64, r.2.2.2.1 + ((p0 * p0).toInt64), r.2.2.2.2.1 + ((p0 * p1).toInt64), r.2.2.2.2.2.1, r.2.2.2.2.2.2.1, r.2.2.2.2.2.2.2.1, r.2.2.2.2.2.2.2.2.1, r.2.2.2.2.2.2.2.2.2.1, r.2.2.2.2.2.2.2.2.2.2.1, r.2.2.2.2.2.2.2.2.2.2.2.1, r.2.2.2.2.2.2.2.2.2.2.2.2)))] H := hP
  have hD : va_D A [(h0, .inr (0, rdv (r.1 + 1, r.2.1 + p0.toInt64, r.2.2.1 + p1.toInt64, r.2.2.2.1 + ((p0 * p0).toInt64), r.2.2.2.2.1 + ((p0 * p1).toInt64), r.2.2.2.2.2.1, r.2.2.2.2.2.2.1, r.2.2.2.2.2.2.2.1, r.2.2.2.2.2.2.2.2.1, r.2.2.2.2.2.2.2.2.2.1, r.2.2.2.2.2.2.2.2.2.2.1, r.2.2.2.2.2.2.2.2.2.2.2.1, r.2.2.2.2.2.2.2.2.2.2.2.2)))] := hD
  refine lv_aload_n hx hb dX0_include_64 rfl (lv_at hl 1 rfl) ?_
  refine lv_dup hx hb dX0_include_65 rfl ?_
  refine va_get (D := D) (ci := 0) (v := .long r.2.2.2.2.2.1) (C := RX0) (T := TX0) (N := 13) hx hb hts iX0_include_X0 hown hK.1 hP 0 rfl rfl 5 (by decide) (hts (.fieldLink RX0 27 "CompassBias$Round" "sumYY" "J") (List.mem_of_getElem? (i := 6) rfl)) (fun _ h9 => h9) rfl dX0_include_66 ?_
  refine lv_iload_n hx hb dX0_include_69 rfl (lv_at hl 3 rfl) ?_
  refine lv_iload_n hx hb dX0_include_70 rfl (lv_at hl 3 rfl) ?_
  refine lv_imul hx hb dX0_include_71 ?_
  refine lv_i2l (v := (p1 * p1).toInt64) hx hb dX0_include_72 rfl ?_
  refine lv_ladd hx hb dX0_include_73 ?_
  refine va_put (D := D) (ci := 0) (v := .long (r.2.2.2.2.2.1 + ((p1 * p1).toInt64))) (ty := .long) (C := RX0) (T := TX0) (N := 13) hx hb hts iX0_include_X0 tyX0 tyX0_ok nmX0 hown hK.1 hP hD hS 0 rfl rfl 5 (by decide) (hts (.fieldLink RX0 27 "CompassBias$Round" "sumYY" "J") (List.mem_of_getElem? (i := 6) rfl)) (fun _ h9 => h9) rfl (by decide +kernel) rfl rfl (Nat.le_of_ble_eq_true rfl) dX0_include_74 (fun H locs hP hD hS => ?_)
  have hP : va_P D classes [(h0, .inr (0, rdv (r.1 + 1, r.2.1 + p0.toInt64, r.2.2.1 + p1.toInt64, r.2.2.2.1 + ((p0 * p0).toInt64), r.2.2.2.2.1 + ((p0 * p1).toInt64), r.2.2.2.2.2.1 + ((p1 * p1).toInt64), r.2.2.2.2.2.2.1, r.2.2.2.2.2.2.2.1, r.2.2.2.2.2.2.2.2.1, r.2.2.2.2.2.2.2.2.2.1, r.2.2.2.2.2.2.2.2.2.2.1, r.2.2.2.2.2.2.2.2.2.2.2.1, r.2.2.2.2.2.2.2.2.2.2.2.2)))] H := hP
  have hD : va_D A [(h0, .inr (0, rdv (r.1 + 1, r.2.1 + p0.toInt64, r.2.2.1 + p1.toInt64, r.2.2.2.1 + ((p0 * p0).toInt64), r.2.2.2.2.1 + ((p0 * p1).toInt64), r.2.2.2.2.2.1 + ((p1 * p1).toInt64), r.2.2.2.2.2.2.1, r.2.2.2.2.2.2.2.1, r.2.2.2.2.2.2.2.2.1, r.2.2.2.2.2.2.2.2.2.1, r.2.2.2.2.2.2.2.2.2.2.1, r.2.2.2.2.2.2.2.2.2.2.2.1, r.2.2.2.2.2.2.2.2.2.2.2.2)))] := hD
  refine lv_aload_n hx hb dX0_include_77 rfl (lv_at hl 1 rfl) ?_
  refine lv_dup hx hb dX0_include_78 rfl ?_
  refine va_get (D := D) (ci := 0) (v := .long r.2.2.2.2.2.2.1) (C := RX0) (T := TX0) (N := 13) hx hb hts iX0_include_X0 hown hK.1 hP 0 rfl rfl 6 (by decide) (hts (.fieldLink RX0 30 "CompassBias$Round" "sumPower" "J") (List.mem_of_getElem? (i := 7) rfl)) (fun _ h9 => h9) rfl dX0_include_79 ?_
  refine lv_iload_n hx hb dX0_include_82 rfl (lv_at hl 0 rfl) ?_
  refine lv_i2l (v := (F_X2_powerAt p0 p1).toInt64) hx hb dX0_include_83 rfl ?_
  refine lv_ladd hx hb dX0_include_84 ?_
  refine va_put (D := D) (ci := 0) (v := .long (r.2.2.2.2.2.2.1 + ((F_X2_powerAt p0 p1).toInt64))) (ty := .long) (C := RX0) (T := TX0) (N := 13) hx hb hts iX0_include_X0 tyX0 tyX0_ok nmX0 hown hK.1 hP hD hS 0 rfl rfl 6 (by decide) (hts (.fieldLink RX0 30 "CompassBias$Round" "sumPower" "J") (List.mem_of_getElem? (i := 7) rfl)) (fun _ h9 => h9) rfl (by decide +kernel) rfl rfl (Nat.le_of_ble_eq_true rfl) dX0_include_85 (fun H locs hP hD hS => ?_)
  have hP : va_P D classes [(h0, .inr (0, rdv (r.1 + 1, r.2.1 + p0.toInt64, r.2.2.1 + p1.toInt64, r.2.2.2.1 + ((p0 * p0).toInt64), r.2.2.2.2.1 + ((p0 * p1).toInt64), r.2.2.2.2.2.1 + ((p1 * p1).toInt64), r.2.2.2.2.2.2.1 + ((F_X2_powerAt p0 p1).toInt64), r.2.2.2.2.2.2.2.1, r.2.2.2.2.2.2.2.2.1, r.2.2.2.2.2.2.2.2.2.1, r.2.2.2.2.2.2.2.2.2.2.1, r.2.2.2.2.2.2.2.2.2.2.2.1, r.2.2.2.2.2.2.2.2.2.2.2.2)))] H := hP
  have hD : va_D A [(h0, .inr (0, rdv (r.1 + 1, r.2.1 + p0.toInt64, r.2.2.1 + p1.toInt64, r.2.2.2.1 + ((p0 * p0).toInt64), r.2.2.2.2.1 + ((p0 * p1).toInt64), r.2.2.2.2.2.1 + ((p1 * p1).toInt64), r.2.2.2.2.2.2.1 + ((F_X2_powerAt p0 p1).toInt64), r.2.2.2.2.2.2.2.1, r.2.2.2.2.2.2.2.2.1, r.2.2.2.2.2.2.2.2.2.1, r.2.2.2.2.2.2.2.2.2.2.1, r.2.2.2.2.2.2.2.2.2.2.2.1, r.2.2.2.2.2.2.2.2.2.2.2.2)))] := hD
  refine lv_aload_n hx hb dX0_include_88 rfl (lv_at hl 1 rfl) ?_
  refine lv_dup hx hb dX0_include_89 rfl ?_
  refine va_get (D := D) (ci := 0) (v := .long r.2.2.2.2.2.2.2.1) (C := RX0) (T := TX0) (N := 13) hx hb hts iX0_include_X0 hown hK.1 hP 0 rfl rfl 7 (by decide) (hts (.fieldLink RX0 33 "CompassBias$Round" "sumXPower" "J") (List.mem_of_getElem? (i := 8) rfl)) (fun _ h9 => h9) rfl dX0_include_90 ?_
  refine lv_iload_n hx hb dX0_include_93 rfl (lv_at hl 2 rfl) ?_
  refine lv_iload_n hx hb dX0_include_94 rfl (lv_at hl 0 rfl) ?_
  refine lv_imul hx hb dX0_include_95 ?_
  refine lv_i2l (v := (p0 * (F_X2_powerAt p0 p1)).toInt64) hx hb dX0_include_96 rfl ?_
  refine lv_ladd hx hb dX0_include_97 ?_
  refine va_put (D := D) (ci := 0) (v := .long (r.2.2.2.2.2.2.2.1 + ((p0 * (F_X2_powerAt p0 p1)).toInt64))) (ty := .long) (C := RX0) (T := TX0) (N := 13) hx hb hts iX0_include_X0 tyX0 tyX0_ok nmX0 hown hK.1 hP hD hS 0 rfl rfl 7 (by decide) (hts (.fieldLink RX0 33 "CompassBias$Round" "sumXPower" "J") (List.mem_of_getElem? (i := 8) rfl)) (fun _ h9 => h9) rfl (by decide +kernel) rfl rfl (Nat.le_of_ble_eq_true rfl) dX0_include_98 (fun H locs hP hD hS => ?_)
  have hP : va_P D classes [(h0, .inr (0, rdv (r.1 + 1, r.2.1 + p0.toInt64, r.2.2.1 + p1.toInt64, r.2.2.2.1 + ((p0 * p0).toInt64), r.2.2.2.2.1 + ((p0 * p1).toInt64), r.2.2.2.2.2.1 + ((p1 * p1).toInt64), r.2.2.2.2.2.2.1 + ((F_X2_powerAt p0 p1).toInt64), r.2.2.2.2.2.2.2.1 + ((p0 * (F_X2_powerAt p0 p1)).toInt64), r.2.2.2.2.2.2.2.2.1, r.2.2.2.2.2.2.2.2.2.1, r.2.2.2.2.2.2.2.2.2.2.1, r.2.2.2.2.2.2.2.2.2.2.2.1, r.2.2.2.2.2.2.2.2.2.2.2.2)))] H := hP
  have hD : va_D A [(h0, .inr (0, rdv (r.1 + 1, r.2.1 + p0.toInt64, r.2.2.1 + p1.toInt64, r.2.2.2.1 + ((p0 * p0).toInt64), r.2.2.2.2.1 + ((p0 * p1).toInt64), r.2.2.2.2.2.1 + ((p1 * p1).toInt64), r.2.2.2.2.2.2.1 + ((F_X2_powerAt p0 p1).toInt64), r.2.2.2.2.2.2.2.1 + ((p0 * (F_X2_powerAt p0 p1)).toInt64), r.2.2.2.2.2.2.2.2.1, r.2.2.2.2.2.2.2.2.2.1, r.2.2.2.2.2.2.2.2.2.2.1, r.2.2.2.2.2.2.2.2.2.2.2.1, r.2.2.2.2.2.2.2.2.2.2.2.2)))] := hD
  refine lv_aload_n hx hb dX0_include_101 rfl (lv_at hl 1 rfl) ?_
  refine lv_dup hx hb dX0_include_102 rfl ?_
  refine va_get (D := D) (ci := 0) (v := .long r.2.2.2.2.2.2.2.2.1) (C := RX0) (T := TX0) (N := 13) hx hb hts iX0_include_X0 hown hK.1 hP 0 rfl rfl 8 (by decide) (hts (.fieldLink RX0 36 "CompassBias$Round" "sumYPower" "J") (List.mem_of_getElem? (i := 9) rfl)) (fun _ h9 => h9) rfl dX0_include_103 ?_
  refine lv_iload_n hx hb dX0_include_106 rfl (lv_at hl 3 rfl) ?_
  refine lv_iload_n hx hb dX0_include_107 rfl (lv_at hl 0 rfl) ?_
  refine lv_imul hx hb dX0_include_108 ?_
  refine lv_i2l (v := (p1 * (F_X2_powerAt p0 p1)).toInt64) hx hb dX0_include_109 rfl ?_
  refine lv_ladd hx hb dX0_include_110 ?_
  refine va_put (D := D) (ci := 0) (v := .long (r.2.2.2.2.2.2.2.2.1 + ((p1 * (F_X2_powerAt p0 p1)).toInt64))) (ty := .long) (C := RX0) (T := TX0) (N := 13) hx hb hts iX0_include_X0 tyX0 tyX0_ok nmX0 hown hK.1 hP hD hS 0 rfl rfl 8 (by decide) (hts (.fieldLink RX0 36 "CompassBias$Round" "sumYPower" "J") (List.mem_of_getElem? (i := 9) rfl)) (fun _ h9 => h9) rfl (by decide +kernel) rfl rfl (Nat.le_of_ble_eq_true rfl) dX0_include_111 (fun H locs hP hD hS => ?_)
  have hP : va_P D classes [(h0, .inr (0, rdv (r.1 + 1, r.2.1 + p0.toInt64, r.2.2.1 + p1.toInt64, r.2.2.2.1 + ((p0 * p0).toInt64), r.2.2.2.2.1 + ((p0 * p1).toInt64), r.2.2.2.2.2.1 + ((p1 * p1).toInt64), r.2.2.2.2.2.2.1 + ((F_X2_powerAt p0 p1).toInt64), r.2.2.2.2.2.2.2.1 + ((p0 * (F_X2_powerAt p0 p1)).toInt64), r.2.2.2.2.2.2.2.2.1 + ((p1 * (F_X2_powerAt p0 p1)).toInt64), r.2.2.2.2.2.2.2.2.2.1, r.2.2.2.2.2.2.2.2.2.2.1, r.2.2.2.2.2.2.2.2.2.2.2.1, r.2.2.2.2.2.2.2.2.2.2.2.2)))] H := hP
  have hD : va_D A [(h0, .inr (0, rdv (r.1 + 1, r.2.1 + p0.toInt64, r.2.2.1 + p1.toInt64, r.2.2.2.1 + ((p0 * p0).toInt64), r.2.2.2.2.1 + ((p0 * p1).toInt64), r.2.2.2.2.2.1 + ((p1 * p1).toInt64), r.2.2.2.2.2.2.1 + ((F_X2_powerAt p0 p1).toInt64), r.2.2.2.2.2.2.2.1 + ((p0 * (F_X2_powerAt p0 p1)).toInt64), r.2.2.2.2.2.2.2.2.1 + ((p1 * (F_X2_powerAt p0 p1)).toInt64), r.2.2.2.2.2.2.2.2.2.1, r.2.2.2.2.2.2.2.2.2.2.1, r.2.2.2.2.2.2.2.2.2.2.2.1, r.2.2.2.2.2.2.2.2.2.2.2.2)))] := hD
  exact ret_v C (r.1 + 1, r.2.1 + p0.toInt64, r.2.2.1 + p1.toInt64, r.2.2.2.1 + ((p0 * p0).toInt64), r.2.2.2.2.1 + ((p0 * p1).toInt64), r.2.2.2.2.2.1 + ((p1 * p1).toInt64), r.2.2.2.2.2.2.1 + ((F_X2_powerAt p0 p1).toInt64), r.2.2.2.2.2.2.2.1 + ((p0 * (F_X2_powerAt p0 p1)).toInt64), r.2.2.2.2.2.2.2.2.1 + ((p1 * (F_X2_powerAt p0 p1)).toInt64), r.2.2.2.2.2.2.2.2.2.1, r.2.2.2.2.2.2.2.2.2.2.1, r.2.2.2.2.2.2.2.2.2.2.2.1, r.2.2.2.2.2.2.2.2.2.2.2.2) rfl hP hD hS dX0_include_114
def F_X0_lay (r : Rd) : Rd := (r.1, r.2.1, r.2.2.1, r.2.2.2.1, r.2.2.2.2.1, r.2.2.2.2.2.1, r.2.2.2.2.2.2.1, r.2.2.2.2.2.2.2.1, r.2.2.2.2.2.2.2.2.1, (((r.1 * r.2.2.2.1) - (r.2.1 * r.2.1)) * ((r.1 * r.2.2.2.2.2.1) - (r.2.2.1 * r.2.2.1))) - (((r.1 * r.2.2.2.2.1) - (r.2.1 * r.2.2.1)) * ((r.1 * r.2.2.2.2.1) - (r.2.1 * r.2.2.1))), (((r.1 * r.2.2.2.2.2.2.2.1) - (r.2.1 * r.2.2.2.2.2.2.1)) * ((r.1 * r.2.2.2.2.2.1) - (r.2.2.1 * r.2.2.1))) - (((r.1 * r.2.2.2.2.2.2.2.2.1) - (r.2.2.1 * r.2.2.2.2.2.2.1)) * ((r.1 * r.2.2.2.2.1) - (r.2.1 * r.2.2.1))), (((r.1 * r.2.2.2.2.2.2.2.2.1) - (r.2.2.1 * r.2.2.2.2.2.2.1)) * ((r.1 * r.2.2.2.1) - (r.2.1 * r.2.1))) - (((r.1 * r.2.2.2.2.2.2.2.1) - (r.2.1 * r.2.2.2.2.2.2.1)) * ((r.1 * r.2.2.2.2.1) - (r.2.1 * r.2.2.1))), ((r.2.2.2.2.2.2.1 * ((((r.1 * r.2.2.2.1) - (r.2.1 * r.2.1)) * ((r.1 * r.2.2.2.2.2.1) - (r.2.2.1 * r.2.2.1))) - (((r.1 * r.2.2.2.2.1) - (r.2.1 * r.2.2.1)) * ((r.1 * r.2.2.2.2.1) - (r.2.1 * r.2.2.1))))) - (((((r.1 * r.2.2.2.2.2.2.2.1) - (r.2.1 * r.2.2.2.2.2.2.1)) * ((r.1 * r.2.2.2.2.2.1) - (r.2.2.1 * r.2.2.1))) - (((r.1 * r.2.2.2.2.2.2.2.2.1) - (r.2.2.1 * r.2.2.2.2.2.2.1)) * ((r.1 * r.2.2.2.2.1) - (r.2.1 * r.2.2.1)))) * r.2.1)) - (((((r.1 * r.2.2.2.2.2.2.2.2.1) - (r.2.2.1 * r.2.2.2.2.2.2.1)) * ((r.1 * r.2.2.2.1) - (r.2.1 * r.2.1))) - (((r.1 * r.2.2.2.2.2.2.2.1) - (r.2.1 * r.2.2.2.2.2.2.1)) * ((r.1 * r.2.2.2.2.1) - (r.2.1 * r.2.2.1)))) * r.2.2.1))
theorem iX0_lay_X0 : ∀ w ∈ u_ws RX0 TX0 13, w ∈ wsX0_lay := fun _ h => List.mem_cons_of_mem _ (List.mem_append_right _ (h))
set_option maxHeartbeats 4000000 in
set_option maxRecDepth 100000 in
theorem c_X0_lay (l : Launch) (D : va_G) (cI cZ : ClassId) (h0 : Nat) (r : Rd) : CTv l yX0_lay wsX0_lay ({ frames := 0, cells := 0, slots := 0, locals := 0 } : Room) D cI cZ [.ref h0] [(h0, .inr (0, rdv r))] (S := Rd) (fun u9 => F_X0_lay r = u9) (fun u => [(h0, .inr (0, rdv u))]) := by
  refine enterM (cc := cX0_lay) (maxL := 11) (ret := none) (own := RX0) (Qc := fun A => va_Qv (S := Rd) (fun u9 => F_X0_lay r = u9) (PoB (S := Rd) D A (fun u => [(h0, .inr (0, rdv u))])) A) (by decide) rfl rfl (Nat.le_of_ble_eq_true rfl) ?_
  intro p e s m below meth c A ls C hK hA hP hD hS hl
  have hx := C.1
  have hb := C.2.1
  have hown := C.2.2.2.1
  have hts := C.2.2.2.2.1
  have _huse := hts
  have hl : lv_has ls 11 [(0, .ref h0)] := hl
  refine lv_aload_n hx hb dX0_lay_0 rfl (lv_at hl 0 rfl) ?_
  refine va_get (D := D) (ci := 0) (v := .long r.1) (C := RX0) (T := TX0) (N := 13) hx hb hts iX0_lay_X0 hown hK.1 hP 0 rfl rfl 0 (by decide) (hts (.fieldLink RX0 9 "CompassBias$Round" "many" "J") (List.mem_of_getElem? (i := 1) rfl)) (fun _ h9 => h9) rfl dX0_lay_1 ?_
  refine lv_aload_n hx hb dX0_lay_4 rfl (lv_at hl 0 rfl) ?_
  refine va_get (D := D) (ci := 0) (v := .long r.2.2.2.1) (C := RX0) (T := TX0) (N := 13) hx hb hts iX0_lay_X0 hown hK.1 hP 0 rfl rfl 3 (by decide) (hts (.fieldLink RX0 21 "CompassBias$Round" "sumXX" "J") (List.mem_of_getElem? (i := 2) rfl)) (fun _ h9 => h9) rfl dX0_lay_5 ?_
  refine lv_lmul hx hb dX0_lay_8 ?_
  refine lv_aload_n hx hb dX0_lay_9 rfl (lv_at hl 0 rfl) ?_
  refine va_get (D := D) (ci := 0) (v := .long r.2.1) (C := RX0) (T := TX0) (N := 13) hx hb hts iX0_lay_X0 hown hK.1 hP 0 rfl rfl 1 (by decide) (hts (.fieldLink RX0 15 "CompassBias$Round" "sumX" "J") (List.mem_of_getElem? (i := 3) rfl)) (fun _ h9 => h9) rfl dX0_lay_10 ?_
  refine lv_aload_n hx hb dX0_lay_13 rfl (lv_at hl 0 rfl) ?_
  refine va_get (D := D) (ci := 0) (v := .long r.2.1) (C := RX0) (T := TX0) (N := 13) hx hb hts iX0_lay_X0 hown hK.1 hP 0 rfl rfl 1 (by decide) (hts (.fieldLink RX0 15 "CompassBias$Round" "sumX" "J") (List.mem_of_getElem? (i := 3) rfl)) (fun _ h9 => h9) rfl dX0_lay_14 ?_
  refine lv_lmul hx hb dX0_lay_17 ?_
  refine lv_lsub hx hb dX0_lay_18 ?_
  refine lv_lstore_n (lv' := [(1, .long ((r.1 * r.2.2.2.1) - (r.2.1 * r.2.1))), (0, .ref h0)]) hx hb dX0_lay_19 rfl hl (by decide) rfl (fun ls hl => ?_)
  refine lv_aload_n hx hb dX0_lay_20 rfl (lv_at hl 1 rfl) ?_
  refine va_get (D := D) (ci := 0) (v := .long r.1) (C := RX0) (T := TX0) (N := 13) hx hb hts iX0_lay_X0 hown hK.1 hP 0 rfl rfl 0 (by decide) (hts (.fieldLink RX0 9 "CompassBias$Round" "many" "J") (List.mem_of_getElem? (i := 1) rfl)) (fun _ h9 => h9) rfl dX0_lay_21 ?_
  refine lv_aload_n hx hb dX0_lay_24 rfl (lv_at hl 1 rfl) ?_
  refine va_get (D := D) (ci := 0) (v := .long r.2.2.2.2.1) (C := RX0) (T := TX0) (N := 13) hx hb hts iX0_lay_X0 hown hK.1 hP 0 rfl rfl 4 (by decide) (hts (.fieldLink RX0 24 "CompassBias$Round" "sumXY" "J") (List.mem_of_getElem? (i := 4) rfl)) (fun _ h9 => h9) rfl dX0_lay_25 ?_
  refine lv_lmul hx hb dX0_lay_28 ?_
  refine lv_aload_n hx hb dX0_lay_29 rfl (lv_at hl 1 rfl) ?_
  refine va_get (D := D) (ci := 0) (v := .long r.2.1) (C := RX0) (T := TX0) (N := 13) hx hb hts iX0_lay_X0 hown hK.1 hP 0 rfl rfl 1 (by decide) (hts (.fieldLink RX0 15 "CompassBias$Round" "sumX" "J") (List.mem_of_getElem? (i := 3) rfl)) (fun _ h9 => h9) rfl dX0_lay_30 ?_
  refine lv_aload_n hx hb dX0_lay_33 rfl (lv_at hl 1 rfl) ?_
  refine va_get (D := D) (ci := 0) (v := .long r.2.2.1) (C := RX0) (T := TX0) (N := 13) hx hb hts iX0_lay_X0 hown hK.1 hP 0 rfl rfl 2 (by decide) (hts (.fieldLink RX0 18 "CompassBias$Round" "sumY" "J") (List.mem_of_getElem? (i := 5) rfl)) (fun _ h9 => h9) rfl dX0_lay_34 ?_
  refine lv_lmul hx hb dX0_lay_37 ?_
  refine lv_lsub hx hb dX0_lay_38 ?_
  refine lv_lstore_n (lv' := [(3, .long ((r.1 * r.2.2.2.2.1) - (r.2.1 * r.2.2.1))), (1, .long ((r.1 * r.2.2.2.1) - (r.2.1 * r.2.1))), (0, .ref h0)]) hx hb dX0_lay_39 rfl hl (by decide) rfl (fun ls hl => ?_)
  refine lv_aload_n hx hb dX0_lay_40 rfl (lv_at hl 2 rfl) ?_
  refine va_get (D := D) (ci := 0) (v := .long r.1) (C := RX0) (T := TX0) (N := 13) hx hb hts iX0_lay_X0 hown hK.1 hP 0 rfl rfl 0 (by decide) (hts (.fieldLink RX0 9 "CompassBias$Round" "many" "J") (List.mem_of_getElem? (i := 1) rfl)) (fun _ h9 => h9) rfl dX0_lay_41 ?_
  refine lv_aload_n hx hb dX0_lay_44 rfl (lv_at hl 2 rfl) ?_
  refine va_get (D := D) (ci := 0) (v := .long r.2.2.2.2.2.1) (C := RX0) (T := TX0) (N := 13) hx hb hts iX0_lay_X0 hown hK.1 hP 0 rfl rfl 5 (by decide) (hts (.fieldLink RX0 27 "CompassBias$Round" "sumYY" "J") (List.mem_of_getElem? (i := 6) rfl)) (fun _ h9 => h9) rfl dX0_lay_45 ?_
  refine lv_lmul hx hb dX0_lay_48 ?_
  refine lv_aload_n hx hb dX0_lay_49 rfl (lv_at hl 2 rfl) ?_
  refine va_get (D := D) (ci := 0) (v := .long r.2.2.1) (C := RX0) (T := TX0) (N := 13) hx hb hts iX0_lay_X0 hown hK.1 hP 0 rfl rfl 2 (by decide) (hts (.fieldLink RX0 18 "CompassBias$Round" "sumY" "J") (List.mem_of_getElem? (i := 5) rfl)) (fun _ h9 => h9) rfl dX0_lay_50 ?_
  refine lv_aload_n hx hb dX0_lay_53 rfl (lv_at hl 2 rfl) ?_
  refine va_get (D := D) (ci := 0) (v := .long r.2.2.1) (C := RX0) (T := TX0) (N := 13) hx hb hts iX0_lay_X0 hown hK.1 hP 0 rfl rfl 2 (by decide) (hts (.fieldLink RX0 18 "CompassBias$Round" "sumY" "J") (List.mem_of_getElem? (i := 5) rfl)) (fun _ h9 => h9) rfl dX0_lay_54 ?_
  refine lv_lmul hx hb dX0_lay_57 ?_
  refine lv_lsub hx hb dX0_lay_58 ?_
  refine lv_lstore (lv' := [(5, .long ((r.1 * r.2.2.2.2.2.1) - (r.2.2.1 * r.2.2.1))), (3, .long ((r.1 * r.2.2.2.2.1) - (r.2.1 * r.2.2.1))), (1, .long ((r.1 * r.2.2.2.1) - (r.2.1 * r.2.1))), (0, .ref h0)]) hx hb dX0_lay_59 hl (by decide) rfl (fun ls hl => ?_)
  refine lv_aload_n hx hb dX0_lay_61 rfl (lv_at hl 3 rfl) ?_
  refine va_get (D := D) (ci := 0) (v := .long r.1) (C := RX0) (T := TX0) (N := 13) hx hb hts iX0_lay_X0 hown hK.1 hP 0 rfl rfl 0 (by decide) (hts (.fieldLink RX0 9 "CompassBias$Round" "many" "J") (List.mem_of_getElem? (i := 1) rfl)) (fun _ h9 => h9) rfl dX0_lay_62 ?_
  refine lv_aload_n hx hb dX0_lay_65 rfl (lv_at hl 3 rfl) ?_
  refine va_get (D := D) (ci := 0) (v := .long r.2.2.2.2.2.2.2.1) (C := RX0) (T := TX0) (N := 13) hx hb hts iX0_lay_X0 hown hK.1 hP 0 rfl rfl 7 (by decide) (hts (.fieldLink RX0 33 "CompassBias$Round" "sumXPower" "J") (List.mem_of_getElem? (i := 7) rfl)) (fun _ h9 => h9) rfl dX0_lay_66 ?_
  refine lv_lmul hx hb dX0_lay_69 ?_
  refine lv_aload_n hx hb dX0_lay_70 rfl (lv_at hl 3 rfl) ?_
  refine va_get (D := D) (ci := 0) (v := .long r.2.1) (C := RX0) (T := TX0) (N := 13) hx hb hts iX0_lay_X0 hown hK.1 hP 0 rfl rfl 1 (by decide) (hts (.fieldLink RX0 15 "CompassBias$Round" "sumX" "J") (List.mem_of_getElem? (i := 3) rfl)) (fun _ h9 => h9) rfl dX0_lay_71 ?_
  refine lv_aload_n hx hb dX0_lay_74 rfl (lv_at hl 3 rfl) ?_
  refine va_get (D := D) (ci := 0) (v := .long r.2.2.2.2.2.2.1) (C := RX0) (T := TX0) (N := 13) hx hb hts iX0_lay_X0 hown hK.1 hP 0 rfl rfl 6 (by decide) (hts (.fieldLink RX0 30 "CompassBias$Round" "sumPower" "J") (List.mem_of_getElem? (i := 8) rfl)) (fun _ h9 => h9) rfl dX0_lay_75 ?_
  refine lv_lmul hx hb dX0_lay_78 ?_
  refine lv_lsub hx hb dX0_lay_79 ?_
  refine lv_lstore (lv' := [(7, .long ((r.1 * r.2.2.2.2.2.2.2.1) - (r.2.1 * r.2.2.2.2.2.2.1))), (5, .long ((r.1 * r.2.2.2.2.2.1) - (r.2.2.1 * r.2.2.1))), (3, .long ((r.1 * r.2.2.2.2.1) - (r.2.1 * r.2.2.1))), (1, .long ((r.1 * r.2.2.2.1) - (r.2.1 * r.2.1))), (0, .ref h0)]) hx hb dX0_lay_80 hl (by decide) rfl (fun ls hl => ?_)
  refine lv_aload_n hx hb dX0_lay_82 rfl (lv_at hl 4 rfl) ?_
  refine va_get (D := D) (ci := 0) (v := .long r.1) (C := RX0) (T := TX0) (N := 13) hx hb hts iX0_lay_X0 hown hK.1 hP 0 rfl rfl 0 (by decide) (hts (.fieldLink RX0 9 "CompassBias$Round" "many" "J") (List.mem_of_getElem? (i := 1) rfl)) (fun _ h9 => h9) rfl dX0_lay_83 ?_
  refine lv_aload_n hx hb dX0_lay_86 rfl (lv_at hl 4 rfl) ?_
  refine va_get (D := D) (ci := 0) (v := .long r.2.2.2.2.2.2.2.2.1) (C := RX0) (T := TX0) (N := 13) hx hb hts iX0_lay_X0 hown hK.1 hP 0 rfl rfl 8 (by decide) (hts (.fieldLink RX0 36 "CompassBias$Round" "sumYPower" "J") (List.mem_of_getElem? (i := 9) rfl)) (fun _ h9 => h9) rfl dX0_lay_87 ?_
  refine lv_lmul hx hb dX0_lay_90 ?_
  refine lv_aload_n hx hb dX0_lay_91 rfl (lv_at hl 4 rfl) ?_
  refine va_get (D := D) (ci := 0) (v := .long r.2.2.1) (C := RX0) (T := TX0) (N := 13) hx hb hts iX0_lay_X0 hown hK.1 hP 0 rfl rfl 2 (by decide) (hts (.fieldLink RX0 18 "CompassBias$Round" "sumY" "J") (List.mem_of_getElem? (i := 5) rfl)) (fun _ h9 => h9) rfl dX0_lay_92 ?_
  refine lv_aload_n hx hb dX0_lay_95 rfl (lv_at hl 4 rfl) ?_
  refine va_get (D := D) (ci := 0) (v := .long r.2.2.2.2.2.2.1) (C := RX0) (T := TX0) (N := 13) hx hb hts iX0_lay_X0 hown hK.1 hP 0 rfl rfl 6 (by decide) (hts (.fieldLink RX0 30 "CompassBias$Round" "sumPower" "J") (List.mem_of_getElem? (i := 8) rfl)) (fun _ h9 => h9) rfl dX0_lay_96 ?_
  refine lv_lmul hx hb dX0_lay_99 ?_
  refine lv_lsub hx hb dX0_lay_100 ?_
  refine lv_lstore (lv' := [(9, .long ((r.1 * r.2.2.2.2.2.2.2.2.1) - (r.2.2.1 * r.2.2.2.2.2.2.1))), (7, .long ((r.1 * r.2.2.2.2.2.2.2.1) - (r.2.1 * r.2.2.2.2.2.2.1))), (5, .long ((r.1 * r.2.2.2.2.2.1) - (r.2.2.1 * r.2.2.1))), (3, .long ((r.1 * r.2.2.2.2.1) - (r.2.1 * r.2.2.1))), (1, .long ((r.1 * r.2.2.2.1) - (r.2.1 * r.2.1))), (0, .ref h0)]) hx hb dX0_lay_101 hl (by decide) rfl (fun ls hl => ?_)
  refine lv_aload_n hx hb dX0_lay_103 rfl (lv_at hl 5 rfl) ?_
  refine lv_lload_n hx hb dX0_lay_104 rfl (lv_at hl 4 rfl) ?_
  refine lv_lload hx hb dX0_lay_105 (lv_at hl 2 rfl) ?_
  refine lv_lmul hx hb dX0_lay_107 ?_
  refine lv_lload_n hx hb dX0_lay_108 rfl (lv_at hl 3 rfl) ?_
  refine lv_lload_n hx hb dX0_lay_109 rfl (lv_at hl 3 rfl) ?_
  refine lv_lmul hx hb dX0_lay_110 ?_
  refine lv_lsub hx hb dX0_lay_111 ?_
  refine va_put (D := D) (ci := 0) (v := .long ((((r.1 * r.2.2.2.1) - (r.2.1 * r.2.1)) * ((r.1 * r.2.2.2.2.2.1) - (r.2.2.1 * r.2.2.1))) - (((r.1 * r.2.2.2.2.1) - (r.2.1 * r.2.2.1)) * ((r.1 * r.2.2.2.2.1) - (r.2.1 * r.2.2.1))))) (ty := .long) (C := RX0) (T := TX0) (N := 13) hx hb hts iX0_lay_X0 tyX0 tyX0_ok nmX0 hown hK.1 hP hD hS 0 rfl rfl 9 (by decide) (hts (.fieldLink RX0 43 "CompassBias$Round" "spread" "J") (List.mem_of_getElem? (i := 10) rfl)) (fun _ h9 => h9) rfl (by decide +kernel) rfl rfl (Nat.le_of_ble_eq_true rfl) dX0_lay_112 (fun H locs hP hD hS => ?_)
  have hP : va_P D classes [(h0, .inr (0, rdv (r.1, r.2.1, r.2.2.1, r.2.2.2.1, r.2.2.2.2.1, r.2.2.2.2.2.1, r.2.2.2.2.2.2.1, r.2.2.2.2.2.2.2.1, r.2.2.2.2.2.2.2.2.1, (((r.1 * r.2.2.2.1) - (r.2.1 * r.2.1)) * ((r.1 * r.2.2.2.2.2.1) - (r.2.2.1 * r.2.2.1))) - (((r.1 * r.2.2.2.2.1) - (r.2.1 * r.2.2.1)) * ((r.1 * r.2.2.2.2.1) - (r.2.1 * r.2.2.1))), r.2.2.2.2.2.2.2.2.2.2.1, r.2.2.2.2.2.2.2.2.2.2.2.1, r.2.2.2.2.2.2.2.2.2.2.2.2)))] H := hP
  have hD : va_D A [(h0, .inr (0, rdv (r.1, r.2.1, r.2.2.1, r.2.2.2.1, r.2.2.2.2.1, r.2.2.2.2.2.1, r.2.2.2.2.2.2.1, r.2.2.2.2.2.2.2.1, r.2.2.2.2.2.2.2.2.1, (((r.1 * r.2.2.2.1) - (r.2.1 * r.2.1)) * ((r.1 * r.2.2.2.2.2.1) - (r.2.2.1 * r.2.2.1))) - (((r.1 * r.2.2.2.2.1) - (r.2.1 * r.2.2.1)) * ((r.1 * r.2.2.2.2.1) - (r.2.1 * r.2.2.1))), r.2.2.2.2.2.2.2.2.2.2.1, r.2.2.2.2.2.2.2.2.2.2.2.1, r.2.2.2.2.2.2.2.2.2.2.2.2)))] := hD
  refine lv_aload_n hx hb dX0_lay_115 rfl (lv_at hl 5 rfl) ?_
  refine lv_lload hx hb dX0_lay_116 (lv_at hl 1 rfl) ?_
  refine lv_lload hx hb dX0_lay_118 (lv_at hl 2 rfl) ?_
  refine lv_lmul hx hb dX0_lay_120 ?_
  refine lv_lload hx hb dX0_lay_121 (lv_at hl 0 rfl) ?_
  refine lv_lload_n hx hb dX0_lay_123 rfl (lv_at hl 3 rfl) ?_
  refine lv_lmul hx hb dX0_lay_124 ?_
  refine lv_lsub hx hb dX0_lay_125 ?_
  refine va_put (D := D) (ci := 0) (v := .long ((((r.1 * r.2.2.2.2.2.2.2.1) - (r.2.1 * r.2.2.2.2.2.2.1)) * ((r.1 * r.2.2.2.2.2.1) - (r.2.2.1 * r.2.2.1))) - (((r.1 * r.2.2.2.2.2.2.2.2.1) - (r.2.2.1 * r.2.2.2.2.2.2.1)) * ((r.1 * r.2.2.2.2.1) - (r.2.1 * r.2.2.1))))) (ty := .long) (C := RX0) (T := TX0) (N := 13) hx hb hts iX0_lay_X0 tyX0 tyX0_ok nmX0 hown hK.1 hP hD hS 0 rfl rfl 10 (by decide) (hts (.fieldLink RX0 46 "CompassBias$Round" "upperA" "J") (List.mem_of_getElem? (i := 11) rfl)) (fun _ h9 => h9) rfl (by decide +kernel) rfl rfl (Nat.le_of_ble_eq_true rfl) dX0_lay_126 (fun H locs hP hD hS => ?_)
  have hP : va_P D classes [(h0, .inr (0, rdv (r.1, r.2.1, r.2.2.1, r.2.2.2.1, r.2.2.2.2.1, r.2.2.2.2.2.1, r.2.2.2.2.2.2.1, r.2.2.2.2.2.2.2.1, r.2.2.2.2.2.2.2.2.1, (((r.1 * r.2.2.2.1) - (r.2.1 * r.2.1)) * ((r.1 * r.2.2.2.2.2.1) - (r.2.2.1 * r.2.2.1))) - (((r.1 * r.2.2.2.2.1) - (r.2.1 * r.2.2.1)) * ((r.1 * r.2.2.2.2.1) - (r.2.1 * r.2.2.1))), (((r.1 * r.2.2.2.2.2.2.2.1) - (r.2.1 * r.2.2.2.2.2.2.1)) * ((r.1 * r.2.2.2.2.2.1) - (r.2.2.1 * r.2.2.1))) - (((r.1 * r.2.2.2.2.2.2.2.2.1) - (r.2.2.1 * r.2.2.2.2.2.2.1)) * ((r.1 * r.2.2.2.2.1) - (r.2.1 * r.2.2.1))), r.2.2.2.2.2.2.2.2.2.2.2.1, r.2.2.2.2.2.2.2.2.2.2.2.2)))] H := hP
  have hD : va_D A [(h0, .inr (0, rdv (r.1, r.2.1, r.2.2.1, r.2.2.2.1, r.2.2.2.2.1, r.2.2.2.2.2.1, r.2.2.2.2.2.2.1, r.2.2.2.2.2.2.2.1, r.2.2.2.2.2.2.2.2.1, (((r.1 * r.2.2.2.1) - (r.2.1 * r.2.1)) * ((r.1 * r.2.2.2.2.2.1) - (r.2.2.1 * r.2.2.1))) - (((r.1 * r.2.2.2.2.1) - (r.2.1 * r.2.2.1)) * ((r.1 * r.2.2.2.2.1) - (r.2.1 * r.2.2.1))), (((r.1 * r.2.2.2.2.2.2.2.1) - (r.2.1 * r.2.2.2.2.2.2.1)) * ((r.1 * r.2.2.2.2.2.1) - (r.2.2.1 * r.2.2.1))) - (((r.1 * r.2.2.2.2.2.2.2.2.1) - (r.2.2.1 * r.2.2.2.2.2.2.1)) * ((r.1 * r.2.2.2.2.1) - (r.2.1 * r.2.2.1))), r.2.2.2.2.2.2.2.2.2.2.2.1, r.2.2.2.2.2.2.2.2.2.2.2.2)))] := hD
  refine lv_aload_n hx hb dX0_lay_129 rfl (lv_at hl 5 rfl) ?_
  refine lv_lload hx hb dX0_lay_130 (lv_at hl 0 rfl) ?_
  refine lv_lload_n hx hb dX0_lay_132 rfl (lv_at hl 4 rfl) ?_
  refine lv_lmul hx hb dX0_lay_133 ?_
  refine lv_lload hx hb dX0_lay_134 (lv_at hl 1 rfl) ?_
  refine lv_lload_n hx hb dX0_lay_136 rfl (lv_at hl 3 rfl) ?_
  refine lv_lmul hx hb dX0_lay_137 ?_
  refine lv_lsub hx hb dX0_lay_138 ?_
  refine va_put (D := D) (ci := 0) (v := .long ((((r.1 * r.2.2.2.2.2.2.2.2.1) - (r.2.2.1 * r.2.2.2.2.2.2.1)) * ((r.1 * r.2.2.2.1) - (r.2.1 * r.2.1))) - (((r.1 * r.2.2.2.2.2.2.2.1) - (r.2.1 * r.2.2.2.2.2.2.1)) * ((r.1 * r.2.2.2.2.1) - (r.2.1 * r.2.2.1))))) (ty := .long) (C := RX0) (T := TX0) (N := 13) hx hb hts iX0_lay_X0 tyX0 tyX0_ok nmX0 hown hK.1 hP hD hS 0 rfl rfl 11 (by decide) (hts (.fieldLink RX0 49 "CompassBias$Round" "upperB" "J") (List.mem_of_getElem? (i := 12) rfl)) (fun _ h9 => h9) rfl (by decide +kernel) rfl rfl (Nat.le_of_ble_eq_true rfl) dX0_lay_139 (fun H locs hP hD hS => ?_)
  have hP : va_P D classes [(h0, .inr (0, rdv (r.1, r.2.1, r.2.2.1, r.2.2.2.1, r.2.2.2.2.1, r.2.2.2.2.2.1, r.2.2.2.2.2.2.1, r.2.2.2.2.2.2.2.1, r.2.2.2.2.2.2.2.2.1, (((r.1 * r.2.2.2.1) - (r.2.1 * r.2.1)) * ((r.1 * r.2.2.2.2.2.1) - (r.2.2.1 * r.2.2.1))) - (((r.1 * r.2.2.2.2.1) - (r.2.1 * r.2.2.1)) * ((r.1 * r.2.2.2.2.1) - (r.2.1 * r.2.2.1))), (((r.1 * r.2.2.2.2.2.2.2.1) - (r.2.1 * r.2.2.2.2.2.2.1)) * ((r.1 * r.2.2.2.2.2.1) - (r.2.2.1 * r.2.2.1))) - (((r.1 * r.2.2.2.2.2.2.2.2.1) - (r.2.2.1 * r.2.2.2.2.2.2.1)) * ((r.1 * r.2.2.2.2.1) - (r.2.1 * r.2.2.1))), (((r.1 * r.2.2.2.2.2.2.2.2.1) - (r.2.2.1 * r.2.2.2.2.2.2.1)) * ((r.1 * r.2.2.2.1) - (r.2.1 * r.2.1))) - (((r.1 * r.2.2.2.2.2.2.2.1) - (r.2.1 * r.2.2.2.2.2.2.1)) * ((r.1 * r.2.2.2.2.1) - (r.2.1 * r.2.2.1))), r.2.2.2.2.2.2.2.2.2.2.2.2)))] H := hP
  have hD : va_D A [(h0, .inr (0, rdv (r.1, r.2.1, r.2.2.1, r.2.2.2.1, r.2.2.2.2.1, r.2.2.2.2.2.1, r.2.2.2.2.2.2.1, r.2.2.2.2.2.2.2.1, r.2.2.2.2.2.2.2.2.1, (((r.1 * r.2.2.2.1) - (r.2.1 * r.2.1)) * ((r.1 * r.2.2.2.2.2.1) - (r.2.2.1 * r.2.2.1))) - (((r.1 * r.2.2.2.2.1) - (r.2.1 * r.2.2.1)) * ((r.1 * r.2.2.2.2.1) - (r.2.1 * r.2.2.1))), (((r.1 * r.2.2.2.2.2.2.2.1) - (r.2.1 * r.2.2.2.2.2.2.1)) * ((r.1 * r.2.2.2.2.2.1) - (r.2.2.1 * r.2.2.1))) - (((r.1 * r.2.2.2.2.2.2.2.2.1) - (r.2.2.1 * r.2.2.2.2.2.2.1)) * ((r.1 * r.2.2.2.2.1) - (r.2.1 * r.2.2.1))), (((r.1 * r.2.2.2.2.2.2.2.2.1) - (r.2.2.1 * r.2.2.2.2.2.2.1)) * ((r.1 * r.2.2.2.1) - (r.2.1 * r.2.1))) - (((r.1 * r.2.2.2.2.2.2.2.1) - (r.2.1 * r.2.2.2.2.2.2.1)) * ((r.1 * r.2.2.2.2.1) - (r.2.1 * r.2.2.1))), r.2.2.2.2.2.2.2.2.2.2.2.2)))] := hD
  refine lv_aload_n hx hb dX0_lay_142 rfl (lv_at hl 5 rfl) ?_
  refine lv_aload_n hx hb dX0_lay_143 rfl (lv_at hl 5 rfl) ?_
  refine va_get (D := D) (ci := 0) (v := .long r.2.2.2.2.2.2.1) (C := RX0) (T := TX0) (N := 13) hx hb hts iX0_lay_X0 hown hK.1 hP 0 rfl rfl 6 (by decide) (hts (.fieldLink RX0 30 "CompassBias$Round" "sumPower" "J") (List.mem_of_getElem? (i := 8) rfl)) (fun _ h9 => h9) rfl dX0_lay_144 ?_
  refine lv_aload_n hx hb dX0_lay_147 rfl (lv_at hl 5 rfl) ?_
  refine va_get (D := D) (ci := 0) (v := .long ((((r.1 * r.2.2.2.1) - (r.2.1 * r.2.1)) * ((r.1 * r.2.2.2.2.2.1) - (r.2.2.1 * r.2.2.1))) - (((r.1 * r.2.2.2.2.1) - (r.2.1 * r.2.2.1)) * ((r.1 * r.2.2.2.2.1) - (r.2.1 * r.2.2.1))))) (C := RX0) (T := TX0) (N := 13) hx hb hts iX0_lay_X0 hown hK.1 hP 0 rfl rfl 9 (by decide) (hts (.fieldLink RX0 43 "CompassBias$Round" "spread" "J") (List.mem_of_getElem? (i := 10) rfl)) (fun _ h9 => h9) rfl dX0_lay_148 ?_
  refine lv_lmul hx hb dX0_lay_151 ?_
  refine lv_aload_n hx hb dX0_lay_152 rfl (lv_at hl 5 rfl) ?_
  refine va_get (D := D) (ci := 0) (v := .long ((((r.1 * r.2.2.2.2.2.2.2.1) - (r.2.1 * r.2.2.2.2.2.2.1)) * ((r.1 * r.2.2.2.2.2.1) - (r.2.2.1 * r.2.2.1))) - (((r.1 * r.2.2.2.2.2.2.2.2.1) - (r.2.2.1 * r.2.2.2.2.2.2.1)) * ((r.1 * r.2.2.2.2.1) - (r.2.1 * r.2.2.1))))) (C := RX0) (T := TX0) (N := 13) hx hb hts iX0_lay_X0 hown hK.1 hP 0 rfl rfl 10 (by decide) (hts (.fieldLink RX0 46 "CompassBias$Round" "upperA" "J") (List.mem_of_getElem? (i := 11) rfl)) (fun _ h9 => h9) rfl dX0_lay_153 ?_
  refine lv_aload_n hx hb dX0_lay_156 rfl (lv_at hl 5 rfl) ?_
  refine va_get (D := D) (ci := 0) (v := .long r.2.1) (C := RX0) (T := TX0) (N := 13) hx hb hts iX0_lay_X0 hown hK.1 hP 0 rfl rfl 1 (by decide) (hts (.fieldLink RX0 15 "CompassBias$Round" "sumX" "J") (List.mem_of_getElem? (i := 3) rfl)) (fun _ h9 => h9) rfl dX0_lay_157 ?_
  refine lv_lmul hx hb dX0_lay_160 ?_
  refine lv_lsub hx hb dX0_lay_161 ?_
  refine lv_aload_n hx hb dX0_lay_162 rfl (lv_at hl 5 rfl) ?_
  refine va_get (D := D) (ci := 0) (v := .long ((((r.1 * r.2.2.2.2.2.2.2.2.1) - (r.2.2.1 * r.2.2.2.2.2.2.1)) * ((r.1 * r.2.2.2.1) - (r.2.1 * r.2.1))) - (((r.1 * r.2.2.2.2.2.2.2.1) - (r.2.1 * r.2.2.2.2.2.2.1)) * ((r.1 * r.2.2.2.2.1) - (r.2.1 * r.2.2.1))))) (C := RX0) (T := TX0) (N := 13) hx hb hts iX0_lay_X0 hown hK.1 hP 0 rfl rfl 11 (by decide) (hts (.fieldLink RX0 49 "CompassBias$Round" "upperB" "J") (List.mem_of_getElem? (i := 12) rfl)) (fun _ h9 => h9) rfl dX0_lay_163 ?_
  refine lv_aload_n hx hb dX0_lay_166 rfl (lv_at hl 5 rfl) ?_
  refine va_get (D := D) (ci := 0) (v := .long r.2.2.1) (C := RX0) (T := TX0) (N := 13) hx hb hts iX0_lay_X0 hown hK.1 hP 0 rfl rfl 2 (by decide) (hts (.fieldLink RX0 18 "CompassBias$Round" "sumY" "J") (List.mem_of_getElem? (i := 5) rfl)) (fun _ h9 => h9) rfl dX0_lay_167 ?_
  refine lv_lmul hx hb dX0_lay_170 ?_
  refine lv_lsub hx hb dX0_lay_171 ?_
  refine va_put (D := D) (ci := 0) (v := .long (((r.2.2.2.2.2.2.1 * ((((r.1 * r.2.2.2.1) - (r.2.1 * r.2.1)) * ((r.1 * r.2.2.2.2.2.1) - (r.2.2.1 * r.2.2.1))) - (((r.1 * r.2.2.2.2.1) - (r.2.1 * r.2.2.1)) * ((r.1 * r.2.2.2.2.1) - (r.2.1 * r.2.2.1))))) - (((((r.1 * r.2.2.2.2.2.2.2.1) - (r.2.1 * r.2.2.2.2.2.2.1)) * ((r.1 * r.2.2.2.2.2.1) - (r.2.2.1 * r.2.2.1))) - (((r.1 * r.2.2.2.2.2.2.2.2.1) - (r.2.2.1 * r.2.2.2.2.2.2.1)) * ((r.1 * r.2.2.2.2.1) - (r.2.1 * r.2.2.1)))) * r.2.1)) - (((((r.1 * r.2.2.2.2.2.2.2.2.1) - (r.2.2.1 * r.2.2.2.2.2.2.1)) * ((r.1 * r.2.2.2.1) - (r.2.1 * r.2.1))) - (((r.1 * r.2.2.2.2.2.2.2.1) - (r.2.1 * r.2.2.2.2.2.2.1)) * ((r.1 * r.2.2.2.2.1) - (r.2.1 * r.2.2.1)))) * r.2.2.1))) (ty := .long) (C := RX0) (T := TX0) (N := 13) hx hb hts iX0_lay_X0 tyX0 tyX0_ok nmX0 hown hK.1 hP hD hS 0 rfl rfl 12 (by decide) (hts (.fieldLink RX0 52 "CompassBias$Round" "upperC" "J") (List.mem_of_getElem? (i := 13) rfl)) (fun _ h9 => h9) rfl (by decide +kernel) rfl rfl (Nat.le_of_ble_eq_true rfl) dX0_lay_172 (fun H locs hP hD hS => ?_)
  have hP : va_P D classes [(h0, .inr (0, rdv (r.1, r.2.1, r.2.2.1, r.2.2.2.1, r.2.2.2.2.1, r.2.2.2.2.2.1, r.2.2.2.2.2.2.1, r.2.2.2.2.2.2.2.1, r.2.2.2.2.2.2.2.2.1, (((r.1 * r.2.2.2.1) - (r.2.1 * r.2.1)) * ((r.1 * r.2.2.2.2.2.1) - (r.2.2.1 * r.2.2.1))) - (((r.1 * r.2.2.2.2.1) - (r.2.1 * r.2.2.1)) * ((r.1 * r.2.2.2.2.1) - (r.2.1 * r.2.2.1))), (((r.1 * r.2.2.2.2.2.2.2.1) - (r.2.1 * r.2.2.2.2.2.2.1)) * ((r.1 * r.2.2.2.2.2.1) - (r.2.2.1 * r.2.2.1))) - (((r.1 * r.2.2.2.2.2.2.2.2.1) - (r.2.2.1 * r.2.2.2.2.2.2.1)) * ((r.1 * r.2.2.2.2.1) - (r.2.1 * r.2.2.1))), (((r.1 * r.2.2.2.2.2.2.2.2.1) - (r.2.2.1 * r.2.2.2.2.2.2.1)) * ((r.1 * r.2.2.2.1) - (r.2.1 * r.2.1))) - (((r.1 * r.2.2.2.2.2.2.2.1) - (r.2.1 * r.2.2.2.2.2.2.1)) * ((r.1 * r.2.2.2.2.1) - (r.2.1 * r.2.2.1))), ((r.2.2.2.2.2.2.1 * ((((r.1 * r.2.2.2.1) - (r.2.1 * r.2.1)) * ((r.1 * r.2.2.2.2.2.1) - (r.2.2.1 * r.2.2.1))) - (((r.1 * r.2.2.2.2.1) - (r.2.1 * r.2.2.1)) * ((r.1 * r.2.2.2.2.1) - (r.2.1 * r.2.2.1))))) - (((((r.1 * r.2.2.2.2.2.2.2.1) - (r.2.1 * r.2.2.2.2.2.2.1)) * ((r.1 * r.2.2.2.2.2.1) - (r.2.2.1 * r.2.2.1))) - (((r.1 * r.2.2.2.2.2.2.2.2.1) - (r.2.2.1 * r.2.2.2.2.2.2.1)) * ((r.1 * r.2.2.2.2.1) - (r.2.1 * r.2.2.1)))) * r.2.1)) - (((((r.1 * r.2.2.2.2.2.2.2.2.1) - (r.2.2.1 * r.2.2.2.2.2.2.1)) * ((r.1 * r.2.2.2.1) - (r.2.1 * r.2.1))) - (((r.1 * r.2.2.2.2.2.2.2.1) - (r.2.1 * r.2.2.2.2.2.2.1)) * ((r.1 * r.2.2.2.2.1) - (r.2.1 * r.2.2.1)))) * r.2.2.1))))] H := hP
  have hD : va_D A [(h0, .inr (0, rdv (r.1, r.2.1, r.2.2.1, r.2.2.2.1, r.2.2.2.2.1, r.2.2.2.2.2.1, r.2.2.2.2.2.2.1, r.2.2.2.2.2.2.2.1, r.2.2.2.2.2.2.2.2.1, (((r.1 * r.2.2.2.1) - (r.2.1 * r.2.1)) * ((r.1 * r.2.2.2.2.2.1) - (r.2.2.1 * r.2.2.1))) - (((r.1 * r.2.2.2.2.1) - (r.2.1 * r.2.2.1)) * ((r.1 * r.2.2.2.2.1) - (r.2.1 * r.2.2.1))), (((r.1 * r.2.2.2.2.2.2.2.1) - (r.2.1 * r.2.2.2.2.2.2.1)) * ((r.1 * r.2.2.2.2.2.1) - (r.2.2.1 * r.2.2.1))) - (((r.1 * r.2.2.2.2.2.2.2.2.1) - (r.2.2.1 * r.2.2.2.2.2.2.1)) * ((r.1 * r.2.2.2.2.1) - (r.2.1 * r.2.2.1))), (((r.1 * r.2.2.2.2.2.2.2.2.1) - (r.2.2.1 * r.2.2.2.2.2.2.1)) * ((r.1 * r.2.2.2.1) - (r.2.1 * r.2.1))) - (((r.1 * r.2.2.2.2.2.2.2.1) - (r.2.1 * r.2.2.2.2.2.2.1)) * ((r.1 * r.2.2.2.2.1) - (r.2.1 * r.2.2.1))), ((r.2.2.2.2.2.2.1 * ((((r.1 * r.2.2.2.1) - (r.2.1 * r.2.1)) * ((r.1 * r.2.2.2.2.2.1) - (r.2.2.1 * r.2.2.1))) - (((r.1 * r.2.2.2.2.1) - (r.2.1 * r.2.2.1)) * ((r.1 * r.2.2.2.2.1) - (r.2.1 * r.2.2.1))))) - (((((r.1 * r.2.2.2.2.2.2.2.1) - (r.2.1 * r.2.2.2.2.2.2.1)) * ((r.1 * r.2.2.2.2.2.1) - (r.2.2.1 * r.2.2.1))) - (((r.1 * r.2.2.2.2.2.2.2.2.1) - (r.2.2.1 * r.2.2.2.2.2.2.1)) * ((r.1 * r.2.2.2.2.1) - (r.2.1 * r.2.2.1)))) * r.2.1)) - (((((r.1 * r.2.2.2.2.2.2.2.2.1) - (r.2.2.1 * r.2.2.2.2.2.2.1)) * ((r.1 * r.2.2.2.1) - (r.2.1 * r.2.1))) - (((r.1 * r.2.2.2.2.2.2.2.1) - (r.2.1 * r.2.2.2.2.2.2.1)) * ((r.1 * r.2.2.2.2.1) - (r.2.1 * r.2.2.1)))) * r.2.2.1))))] := hD
  exact ret_v C (r.1, r.2.1, r.2.2.1, r.2.2.2.1, r.2.2.2.2.1, r.2.2.2.2.2.1, r.2.2.2.2.2.2.1, r.2.2.2.2.2.2.2.1, r.2.2.2.2.2.2.2.2.1, (((r.1 * r.2.2.2.1) - (r.2.1 * r.2.1)) * ((r.1 * r.2.2.2.2.2.1) - (r.2.2.1 * r.2.2.1))) - (((r.1 * r.2.2.2.2.1) - (r.2.1 * r.2.2.1)) * ((r.1 * r.2.2.2.2.1) - (r.2.1 * r.2.2.1))), (((r.1 * r.2.2.2.2.2.2.2.1) - (r.2.1 * r.2.2.2.2.2.2.1)) * ((r.1 * r.2.2.2.2.2.1) - (r.2.2.1 * r.2.2.1))) - (((r.1 * r.2.2.2.2.2.2.2.2.1) - (r.2.2.1 * r.2.2.2.2.2.2.1)) * ((r.1 * r.2.2.2.2.1) - (r.2.1 * r.2.2.1))), (((r.1 * r.2.2.2.2.2.2.2.2.1) - (r.2.2.1 * r.2.2.2.2.2.2.1)) * ((r.1 * r.2.2.2.1) - (r.2.1 * r.2.1))) - (((r.1 * r.2.2.2.2.2.2.2.1) - (r.2.1 * r.2.2.2.2.2.2.1)) * ((r.1 * r.2.2.2.2.1) - (r.2.1 * r.2.2.1))), ((r.2.2.2.2.2.2.1 * ((((r.1 * r.2.2.2.1) - (r.2.1 * r.2.1)) * ((r.1 * r.2.2.2.2.2.1) - (r.2.2.1 * r.2.2.1))) - (((r.1 * r.2.2.2.2.1) - (r.2.1 * r.2.2.1)) * ((r.1 * r.2.2.2.2.1) - (r.2.1 * r.2.2.1))))) - (((((r.1 * r.2.2.2.2.2.2.2.1) - (r.2.1 * r.2.2.2.2.2.2.1)) * ((r.1 * r.2.2.2.2.2.1) - (r.2.2.1 * r.2.2.1))) - (((r.1 * r.2.2.2.2.2.2.2.2.1) - (r.2.2.1 * r.2.2.2.2.2.2.1)) * ((r.1 * r.2.2.2.2.1) - (r.2.1 * r.2.2.1)))) * r.2.1)) - (((((r.1 * r.2.2.2.2.2.2.2.2.1) - (r.2.2.1 * r.2.2.2.2.2.2.1)) * ((r.1 * r.2.2.2.1) - (r.2.1 * r.2.1))) - (((r.1 * r.2.2.2.2.2.2.2.1) - (r.2.1 * r.2.2.2.2.2.2.1)) * ((r.1 * r.2.2.2.2.1) - (r.2.1 * r.2.2.1)))) * r.2.2.1)) rfl hP hD hS dX0_lay_175
def F_X0_isFlat (r : Rd) : Int32 := if 0 < (lg_cmp r.2.2.2.2.2.2.2.2.2.1 0) then (0) else (1)
theorem iX0_isFlat_X0 : ∀ w ∈ u_ws RX0 TX0 13, w ∈ wsX0_isFlat := fun _ h => List.mem_cons_of_mem _ (List.mem_append_right _ (h))
set_option maxHeartbeats 4000000 in
set_option maxRecDepth 100000 in
theorem c_X0_isFlat (l : Launch) (D : va_G) (cI cZ : ClassId) (h0 : Nat) (r : Rd) : CTi l yX0_isFlat wsX0_isFlat ({ frames := 0, cells := 0, slots := 0, locals := 0 } : Room) D cI cZ [.ref h0] [(h0, .inr (0, rdv r))] (S := Unit) (fun z9 _ => F_X0_isFlat r = z9) (fun _ => [(h0, .inr (0, rdv r))]) := by
  refine enterM (cc := cX0_isFlat) (maxL := 1) (ret := (some .boolean)) (own := RX0) (Qc := fun A => va_Qi (S := Unit) (fun z9 _ => F_X0_isFlat r = z9) (PoB (S := Unit) D A (fun _ => [(h0, .inr (0, rdv r))])) A) (by decide) rfl rfl (Nat.le_of_ble_eq_true rfl) ?_
  intro p e s m below meth c A ls C hK hA hP hD hS hl
  have hx := C.1
  have hb := C.2.1
  have hown := C.2.2.2.1
  have hts := C.2.2.2.2.1
  have _huse := hts
  have hl : lv_has ls 1 [(0, .ref h0)] := hl
  refine lv_aload_n hx hb dX0_isFlat_0 rfl (lv_at hl 0 rfl) ?_
  refine va_get (D := D) (ci := 0) (v := .long r.2.2.2.2.2.2.2.2.2.1) (C := RX0) (T := TX0) (N := 13) hx hb hts iX0_isFlat_X0 hown hK.1 hP 0 rfl rfl 9 (by decide) (hts (.fieldLink RX0 43 "CompassBias$Round" "spread" "J") (List.mem_of_getElem? (i := 1) rfl)) (fun _ h9 => h9) rfl dX0_isFlat_1 ?_
  refine lv_lconst (v := 0) hx hb dX0_isFlat_4 (by decide) ?_
  refine W.lcmp hx hb dX0_isFlat_5 ?_
  refine lv_if_gt (tgt := 13) hx hb dX0_isFlat_6 (by decide) (fun c_6 => ?_) (fun c_6 => ?_)
  · refine lv_iconst (v := 0) hx hb dX0_isFlat_13 (by decide) ?_
    exact ret_z C (Or.inl rfl) () (if_pos c_6) hP hD hS dX0_isFlat_14
  · refine lv_iconst (v := 1) hx hb dX0_isFlat_9 (by decide) ?_
    refine lv_goto (tgt := 14) hx hb dX0_isFlat_10 (by decide) ?_
    exact ret_z C (Or.inr rfl) () (if_neg c_6) hP hD hS dX0_isFlat_14
def F_X0_fullLower (r : Rd) : Int64 := r.1 * r.2.2.2.2.2.2.2.2.2.1
theorem iX0_fullLower_X0 : ∀ w ∈ u_ws RX0 TX0 13, w ∈ wsX0_fullLower := fun _ h => List.mem_cons_of_mem _ (List.mem_append_right _ (h))
set_option maxHeartbeats 4000000 in
set_option maxRecDepth 100000 in
theorem c_X0_fullLower (l : Launch) (D : va_G) (cI cZ : ClassId) (h0 : Nat) (r : Rd) : CTl l yX0_fullLower wsX0_fullLower ({ frames := 0, cells := 0, slots := 0, locals := 0 } : Room) D cI cZ [.ref h0] [(h0, .inr (0, rdv r))] (S := Unit) (fun z9 _ => F_X0_fullLower r = z9) (fun _ => [(h0, .inr (0, rdv r))]) := by
  refine enterM (cc := cX0_fullLower) (maxL := 1) (ret := (some .long)) (own := RX0) (Qc := fun A => va_Ql (S := Unit) (fun z9 _ => F_X0_fullLower r = z9) (PoB (S := Unit) D A (fun _ => [(h0, .inr (0, rdv r))])) A) (by decide) rfl rfl (Nat.le_of_ble_eq_true rfl) ?_
  intro p e s m below meth c A ls C hK hA hP hD hS hl
  have hx := C.1
  have hb := C.2.1
  have hown := C.2.2.2.1
  have hts := C.2.2.2.2.1
  have _huse := hts
  have hl : lv_has ls 1 [(0, .ref h0)] := hl
  refine lv_aload_n hx hb dX0_fullLower_0 rfl (lv_at hl 0 rfl) ?_
  refine va_get (D := D) (ci := 0) (v := .long r.1) (C := RX0) (T := TX0) (N := 13) hx hb hts iX0_fullLower_X0 hown hK.1 hP 0 rfl rfl 0 (by decide) (hts (.fieldLink RX0 9 "CompassBias$Round" "many" "J") (List.mem_of_getElem? (i := 1) rfl)) (fun _ h9 => h9) rfl dX0_fullLower_1 ?_
  refine lv_aload_n hx hb dX0_fullLower_4 rfl (lv_at hl 0 rfl) ?_
  refine va_get (D := D) (ci := 0) (v := .long r.2.2.2.2.2.2.2.2.2.1) (C := RX0) (T := TX0) (N := 13) hx hb hts iX0_fullLower_X0 hown hK.1 hP 0 rfl rfl 9 (by decide) (hts (.fieldLink RX0 43 "CompassBias$Round" "spread" "J") (List.mem_of_getElem? (i := 2) rfl)) (fun _ h9 => h9) rfl dX0_fullLower_5 ?_
  refine lv_lmul hx hb dX0_fullLower_8 ?_
  exact ret_l C () rfl hP hD hS dX0_fullLower_9
def F_X0_offUpperAt (r : Rd) (p0 : Int32) (p1 : Int32) : Int64 := (r.1 * (((((F_X2_powerAt p0 p1).toInt64) * r.2.2.2.2.2.2.2.2.2.1) - (r.2.2.2.2.2.2.2.2.2.2.1 * p0.toInt64)) - (r.2.2.2.2.2.2.2.2.2.2.2.1 * p1.toInt64))) - r.2.2.2.2.2.2.2.2.2.2.2.2
theorem iX0_offUpperAt_X0 : ∀ w ∈ u_ws RX0 TX0 13, w ∈ wsX0_offUpperAt := fun _ h => List.mem_cons_of_mem _ (List.mem_append_right _ (h))
set_option maxHeartbeats 4000000 in
set_option maxRecDepth 100000 in
theorem c_X0_offUpperAt (l : Launch) (D : va_G) (cI cZ : ClassId) (h0 : Nat) (r : Rd) (p0 : Int32) (p1 : Int32) : CTl l yX0_offUpperAt wsX0_offUpperAt ({ frames := 1, cells := 0, slots := 0, locals := 21 } : Room) D cI cZ [.ref h0, .int p0, .int p1] [(h0, .inr (0, rdv r))] (S := Unit) (fun z9 _ => F_X0_offUpperAt r p0 p1 = z9) (fun _ => [(h0, .inr (0, rdv r))]) := by
  refine enterM (cc := cX0_offUpperAt) (maxL := 3) (ret := (some .long)) (own := RX0) (Qc := fun A => va_Ql (S := Unit) (fun z9 _ => F_X0_offUpperAt r p0 p1 = z9) (PoB (S := Unit) D A (fun _ => [(h0, .inr (0, rdv r))])) A) (by decide) rfl rfl (Nat.le_of_ble_eq_true rfl) ?_
  intro p e s m below meth c A ls C hK hA hP hD hS hl
  have hx := C.1
  have hb := C.2.1
  have hown := C.2.2.2.1
  have hts := C.2.2.2.2.1
  have _huse := hts
  have hl : lv_has ls 3 [(0, .ref h0), (1, .int p0), (2, .int p1)] := hl
  refine lv_aload_n hx hb dX0_offUpperAt_0 rfl (lv_at hl 0 rfl) ?_
  refine va_get (D := D) (ci := 0) (v := .long r.1) (C := RX0) (T := TX0) (N := 13) hx hb hts iX0_offUpperAt_X0 hown hK.1 hP 0 rfl rfl 0 (by decide) (hts (.fieldLink RX0 9 "CompassBias$Round" "many" "J") (List.mem_of_getElem? (i := 1) rfl)) (fun _ h9 => h9) rfl dX0_offUpperAt_1 ?_
  refine lv_iload_n hx hb dX0_offUpperAt_4 rfl (lv_at hl 1 rfl) ?_
  refine lv_iload_n hx hb dX0_offUpperAt_5 rfl (lv_at hl 2 rfl) ?_
  refine aft_i (wr := [(h0, .inr (0, rdv r))]) (run_SN (As := [.int p0, .int p1]) (rest := [.long r.1]) C (c_X2_powerAt l D cI cZ p0 p1) ⟨va_cnB 2 hts gX0_offUpperAt_X2_powerAt_n39 rfl rfl rfl hK.2 (hts (.initialized RX2) (List.mem_of_getElem? (i := 7) rfl)) (by decide +kernel) ⟨Nat.le_of_ble_eq_true rfl, Nat.le_of_ble_eq_true rfl⟩, (hts (.static yX2_powerAt) (List.mem_of_getElem? (i := 6) rfl)), trivial⟩ hK (hP.sub (ws' := []) [] rfl) (hD.sub (ws' := []) [] (by decide) rfl) rfl hl.1 rfl (Nat.le_of_ble_eq_true rfl) dX0_offUpperAt_6 (Nat.zero_le _) (Nat.zero_le _)) hP hD hS hA [] [0] rfl rfl (by decide) (by decide) (fun r u H locs hw hP hD hS => ?_)
  subst hw
  have hP : va_P D classes [(h0, .inr (0, rdv r))] H := hP
  have hD : va_D A [(h0, .inr (0, rdv r))] := hD
  refine lv_i2l (v := (F_X2_powerAt p0 p1).toInt64) hx hb dX0_offUpperAt_9 rfl ?_
  refine lv_aload_n hx hb dX0_offUpperAt_10 rfl (lv_at hl 0 rfl) ?_
  refine va_get (D := D) (ci := 0) (v := .long r.2.2.2.2.2.2.2.2.2.1) (C := RX0) (T := TX0) (N := 13) hx hb hts iX0_offUpperAt_X0 hown hK.1 hP 0 rfl rfl 9 (by decide) (hts (.fieldLink RX0 43 "CompassBias$Round" "spread" "J") (List.mem_of_getElem? (i := 2) rfl)) (fun _ h9 => h9) rfl dX0_offUpperAt_11 ?_
  refine lv_lmul hx hb dX0_offUpperAt_14 ?_
  refine lv_aload_n hx hb dX0_offUpperAt_15 rfl (lv_at hl 0 rfl) ?_
  refine va_get (D := D) (ci := 0) (v := .long r.2.2.2.2.2.2.2.2.2.2.1) (C := RX0) (T := TX0) (N := 13) hx hb hts iX0_offUpperAt_X0 hown hK.1 hP 0 rfl rfl 10 (by decide) (hts (.fieldLink RX0 46 "CompassBias$Round" "upperA" "J") (List.mem_of_getElem? (i := 3) rfl)) (fun _ h9 => h9) rfl dX0_offUpperAt_16 ?_
  refine lv_iload_n hx hb dX0_offUpperAt_19 rfl (lv_at hl 1 rfl) ?_
  refine lv_i2l (v := p0.toInt64) hx hb dX0_offUpperAt_20 rfl ?_
  refine lv_lmul hx hb dX0_offUpperAt_21 ?_
  refine lv_lsub hx hb dX0_offUpperAt_22 ?_
  refine lv_aload_n hx hb dX0_offUpperAt_23 rfl (lv_at hl 0 rfl) ?_
  refine va_get (D := D) (ci := 0) (v := .long r.2.2.2.2.2.2.2.2.2.2.2.1) (C := RX0) (T := TX0) (N := 13) hx hb hts iX0_offUpperAt_X0 hown hK.1 hP 0 rfl rfl 11 (by decide) (hts (.fieldLink RX0 49 "CompassBias$Round" "upperB" "J") (List.mem_of_getElem? (i := 4) rfl)) (fun _ h9 => h9) rfl dX0_offUpperAt_24 ?_
  refine lv_iload_n hx hb dX0_offUpperAt_27 rfl (lv_at hl 2 rfl) ?_
  refine lv_i2l (v := p1.toInt64) hx hb dX0_offUpperAt_28 rfl ?_
  refine lv_lmul hx hb dX0_offUpperAt_29 ?_
  refine lv_lsub hx hb dX0_offUpperAt_30 ?_
  refine lv_lmul hx hb dX0_offUpperAt_31 ?_
  refine lv_aload_n hx hb dX0_offUpperAt_32 rfl (lv_at hl 0 rfl) ?_
  refine va_get (D := D) (ci := 0) (v := .long r.2.2.2.2.2.2.2.2.2.2.2.2) (C := RX0) (T := TX0) (N := 13) hx hb hts iX0_offUpperAt_X0 hown hK.1 hP 0 rfl rfl 12 (by decide) (hts (.fieldLink RX0 52 "CompassBias$Round" "upperC" "J") (List.mem_of_getElem? (i := 5) rfl)) (fun _ h9 => h9) rfl dX0_offUpperAt_33 ?_
  refine lv_lsub hx hb dX0_offUpperAt_36 ?_
  exact ret_l C () rfl hP hD hS dX0_offUpperAt_37
def L_X0_eighthTowards_106 (p0 : Int64) (p1 : Int64)  : Int32 := if 0 ≤ (lg_cmp p1 0) then ((-6)) else (if (lg_cmp p0 (-p1)) < 0 then ((-6)) else (7))
def L_X0_eighthTowards_90 (p0 : Int64) (p1 : Int64)  : Int32 := if (lg_cmp p0 0) < 0 then (L_X0_eighthTowards_106 p0 p1) else (if (lg_cmp (-p1) p0) ≤ 0 then (L_X0_eighthTowards_106 p0 p1) else (6))
def L_X0_eighthTowards_74 (p0 : Int64) (p1 : Int64)  : Int32 := if 0 ≤ (lg_cmp p0 0) then (L_X0_eighthTowards_90 p0 p1) else (if (lg_cmp (-p1) (-p0)) < 0 then (L_X0_eighthTowards_90 p0 p1) else (5))
def L_X0_eighthTowards_58 (p0 : Int64) (p1 : Int64)  : Int32 := if 0 < (lg_cmp p1 0) then (L_X0_eighthTowards_74 p0 p1) else (if (lg_cmp (-p0) (-p1)) ≤ 0 then (L_X0_eighthTowards_74 p0 p1) else (4))
def L_X0_eighthTowards_43 (p0 : Int64) (p1 : Int64)  : Int32 := if (lg_cmp p1 0) ≤ 0 then (L_X0_eighthTowards_58 p0 p1) else (if (lg_cmp (-p0) p1) < 0 then (L_X0_eighthTowards_58 p0 p1) else (3))
def L_X0_eighthTowards_28 (p0 : Int64) (p1 : Int64)  : Int32 := if 0 < (lg_cmp p0 0) then (L_X0_eighthTowards_43 p0 p1) else (if (lg_cmp p1 (-p0)) ≤ 0 then (L_X0_eighthTowards_43 p0 p1) else (2))
def L_X0_eighthTowards_14 (p0 : Int64) (p1 : Int64)  : Int32 := if (lg_cmp p0 0) ≤ 0 then (L_X0_eighthTowards_28 p0 p1) else (if (lg_cmp p1 p0) < 0 then (L_X0_eighthTowards_28 p0 p1) else (1))
def F_X0_eighthTowards (p0 : Int64) (p1 : Int64) : Int32 := if (lg_cmp p1 0) < 0 then (L_X0_eighthTowards_14 p0 p1) else (if (lg_cmp p0 p1) ≤ 0 then (L_X0_eighthTowards_14 p0 p1) else (0))
set_option maxHeartbeats 4000000 in
set_option maxRecDepth 100000 in
theorem c_X0_eighthTowards (l : Launch) (D : va_G) (cI cZ : ClassId) (p0 : Int64) (p1 : Int64) : CTi l yX0_eighthTowards wsX0_eighthTowards ({ frames := 0, cells := 0, slots := 0, locals := 0 } : Room) D cI cZ [.long p0, .long p1] [] (S := Unit) (fun z9 _ => F_X0_eighthTowards p0 p1 = z9) (fun _ => []) := by
  refine enterM (cc := cX0_eighthTowards) (maxL := 4) (ret := (some .int)) (own := RX0) (Qc := fun A => va_Qi (S := Unit) (fun z9 _ => F_X0_eighthTowards p0 p1 = z9) (PoB (S := Unit) D A (fun _ => [])) A) (by decide) rfl rfl (Nat.le_of_ble_eq_true rfl) ?_
  intro p e s m below meth c A ls C hK hA hP hD hS hl
  have hx := C.1
  have hb := C.2.1
  have hown := C.2.2.2.1
  have hts := C.2.2.2.2.1
  have _huse := hts
  have K106 : ∀ (X : Int32) (_ : X = L_X0_eighthTowards_106 p0 p1) (H : Heap) (locs : List Loc) (_ : va_P D classes [] H) (_ : va_D A []) (_ : va_S A s.heap H locs) (ls : Array Slot) (_ : lv_has ls 4 [(0, .long p0), (2, .long p1)]), W p l e ({ frames := 0, cells := 0, slots := 0, locals := 0 } : Room) s m [.long p0, .long p1].toArray below meth c H locs 0 0 (MQ below (va_Qi (S := Unit) (fun z9 _ => X = z9) (PoB (S := Unit) D A (fun _ => [])) A) [.long p0, .long p1].toArray s 0 0 A) (F0 m 106 ls []) := by
    intro X hX H locs hP hD hS ls hl
    refine lv_lload_n hx hb dX0_eighthTowards_106 rfl (lv_at hl 1 rfl) ?_
    refine lv_lconst (v := 0) hx hb dX0_eighthTowards_107 (by decide) ?_
    refine W.lcmp hx hb dX0_eighthTowards_108 ?_
    refine lv_if_ge (tgt := 122) hx hb dX0_eighthTowards_109 (by decide) (fun c_109 => ?_) (fun c_109 => ?_)
    · refine lv_bipush (v := (-6)) hx hb dX0_eighthTowards_122 (by decide) ?_
      exact ret_i C () (hX.trans ((if_pos c_109))) hP hD hS dX0_eighthTowards_124
    · refine lv_lload_n hx hb dX0_eighthTowards_112 rfl (lv_at hl 0 rfl) ?_
      refine lv_lload_n hx hb dX0_eighthTowards_113 rfl (lv_at hl 1 rfl) ?_
      refine lv_lneg hx hb dX0_eighthTowards_114 ?_
      refine W.lcmp hx hb dX0_eighthTowards_115 ?_
      refine lv_if_lt (tgt := 122) hx hb dX0_eighthTowards_116 (by decide) (fun c_116 => ?_) (fun c_116 => ?_)
      · refine lv_bipush (v := (-6)) hx hb dX0_eighthTowards_122 (by decide) ?_
        exact ret_i C () (hX.trans ((if_neg c_109).trans ((if_pos c_116)))) hP hD hS dX0_eighthTowards_124
      · refine lv_bipush (v := 7) hx hb dX0_eighthTowards_119 (by decide) ?_
        exact ret_i C () (hX.trans ((if_neg c_109).trans ((if_neg c_116)))) hP hD hS dX0_eighthTowards_121
  have K90 : ∀ (X : Int32) (_ : X = L_X0_eighthTowards_90 p0 p1) (H : Heap) (locs : List Loc) (_ : va_P D classes [] H) (_ : va_D A []) (_ : va_S A s.heap H locs) (ls : Array Slot) (_ : lv_has ls 4 [(0, .long p0), (2, .long p1)]), W p l e ({ frames := 0, cells := 0, slots := 0, locals := 0 } : Room) s m [.long p0, .long p1].toArray below meth c H locs 0 0 (MQ below (va_Qi (S := Unit) (fun z9 _ => X = z9) (PoB (S := Unit) D A (fun _ => [])) A) [.long p0, .long p1].toArray s 0 0 A) (F0 m 90 ls []) := by
    intro X hX H locs hP hD hS ls hl
    refine lv_lload_n hx hb dX0_eighthTowards_90 rfl (lv_at hl 0 rfl) ?_
    refine lv_lconst (v := 0) hx hb dX0_eighthTowards_91 (by decide) ?_
    refine W.lcmp hx hb dX0_eighthTowards_92 ?_
    refine lv_if_lt (tgt := 106) hx hb dX0_eighthTowards_93 (by decide) (fun c_93 => ?_) (fun c_93 => ?_)
    · exact K106 X (hX.trans ((if_pos c_93))) _ _ hP hD hS _ (lv_sub hl [0, 1] rfl)
    · refine lv_lload_n hx hb dX0_eighthTowards_96 rfl (lv_at hl 1 rfl) ?_
      refine lv_lneg hx hb dX0_eighthTowards_97 ?_
      refine lv_lload_n hx hb dX0_eighthTowards_98 rfl (lv_at hl 0 rfl) ?_
      refine W.lcmp hx hb dX0_eighthTowards_99 ?_
      refine lv_if_le (tgt := 106) hx hb dX0_eighthTowards_100 (by decide) (fun c_100 => ?_) (fun c_100 => ?_)
      · exact K106 X (hX.trans ((if_neg c_93).trans ((if_pos c_100)))) _ _ hP hD hS _ (lv_sub hl [0, 1] rfl)
      · refine lv_bipush (v := 6) hx hb dX0_eighthTowards_103 (by decide) ?_
        exact ret_i C () (hX.trans ((if_neg c_93).trans ((if_neg c_100)))) hP hD hS dX0_eighthTowards_105
  have K74 : ∀ (X : Int32) (_ : X = L_X0_eighthTowards_74 p0 p1) (H : Heap) (locs : List Loc) (_ : va_P D classes [] H) (_ : va_D A []) (_ : va_S A s.heap H locs) (ls : Array Slot) (_ : lv_has ls 4 [(0, .long p0), (2, .long p1)]), W p l e ({ frames := 0, cells := 0, slots := 0, locals := 0 } : Room) s m [.long p0, .long p1].toArray below meth c H locs 0 0 (MQ below (va_Qi (S := Unit) (fun z9 _ => X = z9) (PoB (S := Unit) D A (fun _ => [])) A) [.long p0, .long p1].toArray s 0 0 A) (F0 m 74 ls []) := by
    intro X hX H locs hP hD hS ls hl
    refine lv_lload_n hx hb dX0_eighthTowards_74 rfl (lv_at hl 0 rfl) ?_
    refine lv_lconst (v := 0) hx hb dX0_eighthTowards_75 (by decide) ?_
    refine W.lcmp hx hb dX0_eighthTowards_76 ?_
    refine lv_if_ge (tgt := 90) hx hb dX0_eighthTowards_77 (by decide) (fun c_77 => ?_) (fun c_77 => ?_)
    · exact K90 X (hX.trans ((if_pos c_77))) _ _ hP hD hS _ (lv_sub hl [0, 1] rfl)
    · refine lv_lload_n hx hb dX0_eighthTowards_80 rfl (lv_at hl 1 rfl) ?_
      refine lv_lneg hx hb dX0_eighthTowards_81 ?_
      refine lv_lload_n hx hb dX0_eighthTowards_82 rfl (lv_at hl 0 rfl) ?_
      refine lv_lneg hx hb dX0_eighthTowards_83 ?_
      refine W.lcmp hx hb dX0_eighthTowards_84 ?_
      refine lv_if_lt (tgt := 90) hx hb dX0_eighthTowards_85 (by decide) (fun c_85 => ?_) (fun c_85 => ?_)
      · exact K90 X (hX.trans ((if_neg c_77).trans ((if_pos c_85)))) _ _ hP hD hS _ (lv_sub hl [0, 1] rfl)
      · refine lv_iconst (v := 5) hx hb dX0_eighthTowards_88 (by decide) ?_
        exact ret_i C () (hX.trans ((if_neg c_77).trans ((if_neg c_85)))) hP hD hS dX0_eighthTowards_89
  have K58 : ∀ (X : Int32) (_ : X = L_X0_eighthTowards_58 p0 p1) (H : Heap) (locs : List Loc) (_ : va_P D classes [] H) (_ : va_D A []) (_ : va_S A s.heap H locs) (ls : Array Slot) (_ : lv_has ls 4 [(0, .long p0), (2, .long p1)]), W p l e ({ frames := 0, cells := 0, slots := 0, locals := 0 } : Room) s m [.long p0, .long p1].toArray below meth c H locs 0 0 (MQ below (va_Qi (S := Unit) (fun z9 _ => X = z9) (PoB (S := Unit) D A (fun _ => [])) A) [.long p0, .long p1].toArray s 0 0 A) (F0 m 58 ls []) := by
    intro X hX H locs hP hD hS ls hl
    refine lv_lload_n hx hb dX0_eighthTowards_58 rfl (lv_at hl 1 rfl) ?_
    refine lv_lconst (v := 0) hx hb dX0_eighthTowards_59 (by decide) ?_
    refine W.lcmp hx hb dX0_eighthTowards_60 ?_
    refine lv_if_gt (tgt := 74) hx hb dX0_eighthTowards_61 (by decide) (fun c_61 => ?_) (fun c_61 => ?_)
    · exact K74 X (hX.trans ((if_pos c_61))) _ _ hP hD hS _ (lv_sub hl [0, 1] rfl)
    · refine lv_lload_n hx hb dX0_eighthTowards_64 rfl (lv_at hl 0 rfl) ?_
      refine lv_lneg hx hb dX0_eighthTowards_65 ?_
      refine lv_lload_n hx hb dX0_eighthTowards_66 rfl (lv_at hl 1 rfl) ?_
      refine lv_lneg hx hb dX0_eighthTowards_67 ?_
      refine W.lcmp hx hb dX0_eighthTowards_68 ?_
      refine lv_if_le (tgt := 74) hx hb dX0_eighthTowards_69 (by decide) (fun c_69 => ?_) (fun c_69 => ?_)
      · exact K74 X (hX.trans ((if_neg c_61).trans ((if_pos c_69)))) _ _ hP hD hS _ (lv_sub hl [0, 1] rfl)
      · refine lv_iconst (v := 4) hx hb dX0_eighthTowards_72 (by decide) ?_
        exact ret_i C () (hX.trans ((if_neg c_61).trans ((if_neg c_69)))) hP hD hS dX0_eighthTowards_73
  have K43 : ∀ (X : Int32) (_ : X = L_X0_eighthTowards_43 p0 p1) (H : Heap) (locs : List Loc) (_ : va_P D classes [] H) (_ : va_D A []) (_ : va_S A s.heap H locs) (ls : Array Slot) (_ : lv_has ls 4 [(0, .long p0), (2, .long p1)]), W p l e ({ frames := 0, cells := 0, slots := 0, locals := 0 } : Room) s m [.long p0, .long p1].toArray below meth c H locs 0 0 (MQ below (va_Qi (S := Unit) (fun z9 _ => X = z9) (PoB (S := Unit) D A (fun _ => [])) A) [.long p0, .long p1].toArray s 0 0 A) (F0 m 43 ls []) := by
    intro X hX H locs hP hD hS ls hl
    refine lv_lload_n hx hb dX0_eighthTowards_43 rfl (lv_at hl 1 rfl) ?_
    refine lv_lconst (v := 0) hx hb dX0_eighthTowards_44 (by decide) ?_
    refine W.lcmp hx hb dX0_eighthTowards_45 ?_
    refine lv_if_le (tgt := 58) hx hb dX0_eighthTowards_46 (by decide) (fun c_46 => ?_) (fun c_46 => ?_)
    · exact K58 X (hX.trans ((if_pos c_46))) _ _ hP hD hS _ (lv_sub hl [0, 1] rfl)
    · refine lv_lload_n hx hb dX0_eighthTowards_49 rfl (lv_at hl 0 rfl) ?_
      refine lv_lneg hx hb dX0_eighthTowards_50 ?_
      refine lv_lload_n hx hb dX0_eighthTowards_51 rfl (lv_at hl 1 rfl) ?_
      refine W.lcmp hx hb dX0_eighthTowards_52 ?_
      refine lv_if_lt (tgt := 58) hx hb dX0_eighthTowards_53 (by decide) (fun c_53 => ?_) (fun c_53 => ?_)
      · exact K58 X (hX.trans ((if_neg c_46).trans ((if_pos c_53)))) _ _ hP hD hS _ (lv_sub hl [0, 1] rfl)
      · refine lv_iconst (v := 3) hx hb dX0_eighthTowards_56 (by decide) ?_
        exact ret_i C () (hX.trans ((if_neg c_46).trans ((if_neg c_53)))) hP hD hS dX0_eighthTowards_57
  have K28 : ∀ (X : Int32) (_ : X = L_X0_eighthTowards_28 p0 p1) (H : Heap) (locs : List Loc) (_ : va_P D classes [] H) (_ : va_D A []) (_ : va_S A s.heap H locs) (ls : Array Slot) (_ : lv_has ls 4 [(0, .long p0), (2, .long p1)]), W p l e ({ frames := 0, cells := 0, slots := 0, locals := 0 } : Room) s m [.long p0, .long p1].toArray below meth c H locs 0 0 (MQ below (va_Qi (S := Unit) (fun z9 _ => X = z9) (PoB (S := Unit) D A (fun _ => [])) A) [.long p0, .long p1].toArray s 0 0 A) (F0 m 28 ls []) := by
    intro X hX H locs hP hD hS ls hl
    refine lv_lload_n hx hb dX0_eighthTowards_28 rfl (lv_at hl 0 rfl) ?_
    refine lv_lconst (v := 0) hx hb dX0_eighthTowards_29 (by decide) ?_
    refine W.lcmp hx hb dX0_eighthTowards_30 ?_
    refine lv_if_gt (tgt := 43) hx hb dX0_eighthTowards_31 (by decide) (fun c_31 => ?_) (fun c_31 => ?_)
    · exact K43 X (hX.trans ((if_pos c_31))) _ _ hP hD hS _ (lv_sub hl [0, 1] rfl)
    · refine lv_lload_n hx hb dX0_eighthTowards_34 rfl (lv_at hl 1 rfl) ?_
      refine lv_lload_n hx hb dX0_eighthTowards_35 rfl (lv_at hl 0 rfl) ?_
      refine lv_lneg hx hb dX0_eighthTowards_36 ?_
      refine W.lcmp hx hb dX0_eighthTowards_37 ?_
      refine lv_if_le (tgt := 43) hx hb dX0_eighthTowards_38 (by decide) (fun c_38 => ?_) (fun c_38 => ?_)
      · exact K43 X (hX.trans ((if_neg c_31).trans ((if_pos c_38)))) _ _ hP hD hS _ (lv_sub hl [0, 1] rfl)
      · refine lv_iconst (v := 2) hx hb dX0_eighthTowards_41 (by decide) ?_
        exact ret_i C () (hX.trans ((if_neg c_31).trans ((if_neg c_38)))) hP hD hS dX0_eighthTowards_42
  have K14 : ∀ (X : Int32) (_ : X = L_X0_eighthTowards_14 p0 p1) (H : Heap) (locs : List Loc) (_ : va_P D classes [] H) (_ : va_D A []) (_ : va_S A s.heap H locs) (ls : Array Slot) (_ : lv_has ls 4 [(0, .long p0), (2, .long p1)]), W p l e ({ frames := 0, cells := 0, slots := 0, locals := 0 } : Room) s m [.long p0, .long p1].toArray below meth c H locs 0 0 (MQ below (va_Qi (S := Unit) (fun z9 _ => X = z9) (PoB (S := Unit) D A (fun _ => [])) A) [.long p0, .long p1].toArray s 0 0 A) (F0 m 14 ls []) := by
    intro X hX H locs hP hD hS ls hl
    refine lv_lload_n hx hb dX0_eighthTowards_14 rfl (lv_at hl 0 rfl) ?_
    refine lv_lconst (v := 0) hx hb dX0_eighthTowards_15 (by decide) ?_
    refine W.lcmp hx hb dX0_eighthTowards_16 ?_
    refine lv_if_le (tgt := 28) hx hb dX0_eighthTowards_17 (by decide) (fun c_17 => ?_) (fun c_17 => ?_)
    · exact K28 X (hX.trans ((if_pos c_17))) _ _ hP hD hS _ (lv_sub hl [0, 1] rfl)
    · refine lv_lload_n hx hb dX0_eighthTowards_20 rfl (lv_at hl 1 rfl) ?_
      refine lv_lload_n hx hb dX0_eighthTowards_21 rfl (lv_at hl 0 rfl) ?_
      refine W.lcmp hx hb dX0_eighthTowards_22 ?_
      refine lv_if_lt (tgt := 28) hx hb dX0_eighthTowards_23 (by decide) (fun c_23 => ?_) (fun c_23 => ?_)
      · exact K28 X (hX.trans ((if_neg c_17).trans ((if_pos c_23)))) _ _ hP hD hS _ (lv_sub hl [0, 1] rfl)
      · refine lv_iconst (v := 1) hx hb dX0_eighthTowards_26 (by decide) ?_
        exact ret_i C () (hX.trans ((if_neg c_17).trans ((if_neg c_23)))) hP hD hS dX0_eighthTowards_27
  have hl : lv_has ls 4 [(0, .long p0), (2, .long p1)] := hl
  refine lv_lload_n hx hb dX0_eighthTowards_0 rfl (lv_at hl 1 rfl) ?_
  refine lv_lconst (v := 0) hx hb dX0_eighthTowards_1 (by decide) ?_
  refine W.lcmp hx hb dX0_eighthTowards_2 ?_
  refine lv_if_lt (tgt := 14) hx hb dX0_eighthTowards_3 (by decide) (fun c_3 => ?_) (fun c_3 => ?_)
  · exact K14 (F_X0_eighthTowards p0 p1) (if_pos c_3) _ _ hP hD hS _ (lv_sub hl [0, 1] rfl)
  · refine lv_lload_n hx hb dX0_eighthTowards_6 rfl (lv_at hl 0 rfl) ?_
    refine lv_lload_n hx hb dX0_eighthTowards_7 rfl (lv_at hl 1 rfl) ?_
    refine W.lcmp hx hb dX0_eighthTowards_8 ?_
    refine lv_if_le (tgt := 14) hx hb dX0_eighthTowards_9 (by decide) (fun c_9 => ?_) (fun c_9 => ?_)
    · exact K14 (F_X0_eighthTowards p0 p1) ((if_neg c_3).trans ((if_pos c_9))) _ _ hP hD hS _ (lv_sub hl [0, 1] rfl)
    · refine lv_iconst (v := 0) hx hb dX0_eighthTowards_12 (by decide) ?_
      exact ret_i C () ((if_neg c_3).trans ((if_neg c_9))) hP hD hS dX0_eighthTowards_13
def F_X0_eighthAt (r : Rd) (p0 : Int32) (p1 : Int32) : Int32 := F_X0_eighthTowards (((2 * r.2.2.2.2.2.2.2.2.2.1) * p0.toInt64) - r.2.2.2.2.2.2.2.2.2.2.1) (((2 * r.2.2.2.2.2.2.2.2.2.1) * p1.toInt64) - r.2.2.2.2.2.2.2.2.2.2.2.1)
theorem iX0_eighthAt_X0 : ∀ w ∈ u_ws RX0 TX0 13, w ∈ wsX0_eighthAt := fun _ h => List.mem_cons_of_mem _ (List.mem_append_right _ (h))
set_option maxHeartbeats 4000000 in
set_option maxRecDepth 100000 in
theorem c_X0_eighthAt (l : Launch) (D : va_G) (cI cZ : ClassId) (h0 : Nat) (r : Rd) (p0 : Int32) (p1 : Int32) : CTi l yX0_eighthAt wsX0_eighthAt ({ frames := 1, cells := 0, slots := 0, locals := 23 } : Room) D cI cZ [.ref h0, .int p0, .int p1] [(h0, .inr (0, rdv r))] (S := Unit) (fun z9 _ => F_X0_eighthAt r p0 p1 = z9) (fun _ => [(h0, .inr (0, rdv r))]) := by
  refine enterM (cc := cX0_eighthAt) (maxL := 3) (ret := (some .int)) (own := RX0) (Qc := fun A => va_Qi (S := Unit) (fun z9 _ => F_X0_eighthAt r p0 p1 = z9) (PoB (S := Unit) D A (fun _ => [(h0, .inr (0, rdv r))])) A) (by decide) rfl rfl (Nat.le_of_ble_eq_true rfl) ?_
  intro p e s m below meth c A ls C hK hA hP hD hS hl
  have hx := C.1
  have hb := C.2.1
  have hown := C.2.2.2.1
  have hts := C.2.2.2.2.1
  have _huse := hts
  have hl : lv_has ls 3 [(0, .ref h0), (1, .int p0), (2, .int p1)] := hl
  refine lv_ldc2 (v := 2) hx hb hown (hts (.constantLong RX0 55 (2)) (List.mem_of_getElem? (i := 1) rfl)) dX0_eighthAt_0 ?_
  refine lv_aload_n hx hb dX0_eighthAt_3 rfl (lv_at hl 0 rfl) ?_
  refine va_get (D := D) (ci := 0) (v := .long r.2.2.2.2.2.2.2.2.2.1) (C := RX0) (T := TX0) (N := 13) hx hb hts iX0_eighthAt_X0 hown hK.1 hP 0 rfl rfl 9 (by decide) (hts (.fieldLink RX0 43 "CompassBias$Round" "spread" "J") (List.mem_of_getElem? (i := 2) rfl)) (fun _ h9 => h9) rfl dX0_eighthAt_4 ?_
  refine lv_lmul hx hb dX0_eighthAt_7 ?_
  refine lv_iload_n hx hb dX0_eighthAt_8 rfl (lv_at hl 1 rfl) ?_
  refine lv_i2l (v := p0.toInt64) hx hb dX0_eighthAt_9 rfl ?_
  refine lv_lmul hx hb dX0_eighthAt_10 ?_
  refine lv_aload_n hx hb dX0_eighthAt_11 rfl (lv_at hl 0 rfl) ?_
  refine va_get (D := D) (ci := 0) (v := .long r.2.2.2.2.2.2.2.2.2.2.1) (C := RX0) (T := TX0) (N := 13) hx hb hts iX0_eighthAt_X0 hown hK.1 hP 0 rfl rfl 10 (by decide) (hts (.fieldLink RX0 46 "CompassBias$Round" "upperA" "J") (List.mem_of_getElem? (i := 3) rfl)) (fun _ h9 => h9) rfl dX0_eighthAt_12 ?_
  refine lv_lsub hx hb dX0_eighthAt_15 ?_
  refine lv_ldc2 (v := 2) hx hb hown (hts (.constantLong RX0 55 (2)) (List.mem_of_getElem? (i := 1) rfl)) dX0_eighthAt_16 ?_
  refine lv_aload_n hx hb dX0_eighthAt_19 rfl (lv_at hl 0 rfl) ?_
  refine va_get (D := D) (ci := 0) (v := .long r.2.2.2.2.2.2.2.2.2.1) (C := RX0) (T := TX0) (N := 13) hx hb hts iX0_eighthAt_X0 hown hK.1 hP 0 rfl rfl 9 (by decide) (hts (.fieldLink RX0 43 "CompassBias$Round" "spread" "J") (List.mem_of_getElem? (i := 2) rfl)) (fun _ h9 => h9) rfl dX0_eighthAt_20 ?_
  refine lv_lmul hx hb dX0_eighthAt_23 ?_
  refine lv_iload_n hx hb dX0_eighthAt_24 rfl (lv_at hl 2 rfl) ?_
  refine lv_i2l (v := p1.toInt64) hx hb dX0_eighthAt_25 rfl ?_
  refine lv_lmul hx hb dX0_eighthAt_26 ?_
  refine lv_aload_n hx hb dX0_eighthAt_27 rfl (lv_at hl 0 rfl) ?_
  refine va_get (D := D) (ci := 0) (v := .long r.2.2.2.2.2.2.2.2.2.2.2.1) (C := RX0) (T := TX0) (N := 13) hx hb hts iX0_eighthAt_X0 hown hK.1 hP 0 rfl rfl 11 (by decide) (hts (.fieldLink RX0 49 "CompassBias$Round" "upperB" "J") (List.mem_of_getElem? (i := 4) rfl)) (fun _ h9 => h9) rfl dX0_eighthAt_28 ?_
  refine lv_lsub hx hb dX0_eighthAt_31 ?_
  refine aft_i (wr := [(h0, .inr (0, rdv r))]) (run_S (As := [.long (((2 * r.2.2.2.2.2.2.2.2.2.1) * p0.toInt64) - r.2.2.2.2.2.2.2.2.2.2.1), .long (((2 * r.2.2.2.2.2.2.2.2.2.1) * p1.toInt64) - r.2.2.2.2.2.2.2.2.2.2.2.1)]) (rest := []) C (c_X0_eighthTowards l D cI cZ (((2 * r.2.2.2.2.2.2.2.2.2.1) * p0.toInt64) - r.2.2.2.2.2.2.2.2.2.2.1) (((2 * r.2.2.2.2.2.2.2.2.2.1) * p1.toInt64) - r.2.2.2.2.2.2.2.2.2.2.2.1)) (va_cwS 2 hts gX0_eighthAt_X0_eighthTowards rfl rfl rfl (by decide +kernel) ⟨Nat.le_of_ble_eq_true rfl, Nat.le_of_ble_eq_true rfl⟩) hK (hP.sub (ws' := []) [] rfl) (hD.sub (ws' := []) [] (by decide) rfl) rfl hl.1 rfl (Nat.le_of_ble_eq_true rfl) dX0_eighthAt_32 (Nat.zero_le _) (Nat.zero_le _)) hP hD hS hA [] [0] rfl rfl (by decide) (by decide) (fun r u H locs hw hP hD hS => ?_)
  subst hw
  have hP : va_P D classes [(h0, .inr (0, rdv r))] H := hP
  have hD : va_D A [(h0, .inr (0, rdv r))] := hD
  exact ret_i C () rfl hP hD hS dX0_eighthAt_35
def L_X1_become_2 (b : Sm) : Nat → Int32 → Sm → Sm
  | 0, _, _ => (fun _ => 0, fun _ => 0, 0, 0, 0)
  | n + 1, i, v => if 10 ≤ i then ((v.1, v.2.1, b.2.2.1, b.2.2.2.1, b.2.2.2.2)) else (L_X1_become_2 b n (i + 1) (upd v.1 i.toNatClampNeg (b.1 i.toNatClampNeg), upd v.2.1 i.toNatClampNeg (b.2.1 i.toNatClampNeg), v.2.2.1, v.2.2.2.1, v.2.2.2.2))
def F_X1_become (a : Sm) (b : Sm) : Sm := L_X1_become_2 b 11 0 a
theorem iX1_become_X1 : ∀ w ∈ u_ws RX1 TX1 5, w ∈ wsX1_become := fun _ h => List.mem_cons_of_mem _ (List.mem_append_right _ (h))
set_option maxHeartbeats 4000000 in
set_option maxRecDepth 100000 in
theorem c_X1_become (l : Launch) (D : va_G) (cI cZ : ClassId) (h0 h1 ax ay bx bw : Nat) (a : Sm) (b : Sm) : CTv l yX1_become wsX1_become ({ frames := 0, cells := 0, slots := 0, locals := 0 } : Room) D cI cZ [.ref h0, .ref h1] [(h0, .inr (1, [.ref ax, .ref ay, .int a.2.2.1, .int a.2.2.2.1, .int a.2.2.2.2])), (ax, .inl (cI, 10, .inl a.1)), (ay, .inl (cI, 10, .inl a.2.1)), (h1, .inr (1, [.ref bx, .ref bw, .int b.2.2.1, .int b.2.2.2.1, .int b.2.2.2.2])), (bx, .inl (cI, 10, .inl b.1)), (bw, .inl (cI, 10, .inl b.2.1))] (S := Sm) (fun u9 => F_X1_become a b = u9) (fun u => [(h0, .inr (1, [.ref ax, .ref ay, .int u.2.2.1, .int u.2.2.2.1, .int u.2.2.2.2])), (ax, .inl (cI, 10, .inl u.1)), (ay, .inl (cI, 10, .inl u.2.1)), (h1, .inr (1, [.ref bx, .ref bw, .int b.2.2.1, .int b.2.2.2.1, .int b.2.2.2.2])), (bx, .inl (cI, 10, .inl b.1)), (bw, .inl (cI, 10, .inl b.2.1))]) := by
  refine enterM (cc := cX1_become) (maxL := 3) (ret := none) (own := RX1) (Qc := fun A => va_Qv (S := Sm) (fun u9 => F_X1_become a b = u9) (PoB (S := Sm) D A (fun u => [(h0, .inr (1, [.ref ax, .ref ay, .int u.2.2.1, .int u.2.2.2.1, .int u.2.2.2.2])), (ax, .inl (cI, 10, .inl u.1)), (ay, .inl (cI, 10, .inl u.2.1)), (h1, .inr (1, [.ref bx, .ref bw, .int b.2.2.1, .int b.2.2.2.1, .int b.2.2.2.2])), (bx, .inl (cI, 10, .inl b.1)), (bw, .inl (cI, 10, .inl b.2.1))])) A) (by decide) rfl rfl (Nat.le_of_ble_eq_true rfl) ?_
  intro p e s m below meth c A ls C hK hA hP hD hS hl
  have hx := C.1
  have hb := C.2.1
  have hown := C.2.2.2.1
  have hts := C.2.2.2.2.1
  have _huse := hts
  have K2 : ∀ (n : Nat) (k : Nat) (i : Int32) (v : Sm) (_ : i.toInt = (k : Int)) (_ : k ≤ 10) (_ : 10 < k + n) (X : Sm) (_ : X = L_X1_become_2 b n i v) (H : Heap) (locs : List Loc) (_ : va_P D classes [(h0, .inr (1, [.ref ax, .ref ay, .int v.2.2.1, .int v.2.2.2.1, .int v.2.2.2.2])), (ax, .inl (cI, 10, .inl v.1)), (ay, .inl (cI, 10, .inl v.2.1)), (h1, .inr (1, [.ref bx, .ref bw, .int b.2.2.1, .int b.2.2.2.1, .int b.2.2.2.2])), (bx, .inl (cI, 10, .inl b.1)), (bw, .inl (cI, 10, .inl b.2.1))] H) (_ : va_D A [(h0, .inr (1, [.ref ax, .ref ay, .int v.2.2.1, .int v.2.2.2.1, .int v.2.2.2.2])), (ax, .inl (cI, 10, .inl v.1)), (ay, .inl (cI, 10, .inl v.2.1)), (h1, .inr (1, [.ref bx, .ref bw, .int b.2.2.1, .int b.2.2.2.1, .int b.2.2.2.2])), (bx, .inl (cI, 10, .inl b.1)), (bw, .inl (cI, 10, .inl b.2.1))]) (_ : va_S A s.heap H locs) (ls : Array Slot) (_ : lv_has ls 3 [(0, .ref h0), (1, .ref h1), (2, .int i)]), W p l e ({ frames := 0, cells := 0, slots := 0, locals := 0 } : Room) s m [.ref h0, .ref h1].toArray below meth c H locs 0 0 (MQ below (va_Qv (S := Sm) (fun u9 => X = u9) (PoB (S := Sm) D A (fun u => [(h0, .inr (1, [.ref ax, .ref ay, .int u.2.2.1, .int u.2.2.2.1, .int u.2.2.2.2])), (ax, .inl (cI, 10, .inl u.1)), (ay, .inl (cI, 10, .inl u.2.1)), (h1, .inr (1, [.ref bx, .ref bw, .int b.2.2.1, .int b.2.2.2.1, .int b.2.2.2.2])), (bx, .inl (cI, 10, .inl b.1)), (bw, .inl (cI, 10, .inl b.2.1))])) A) [.ref h0, .ref h1].toArray s 0 0 A) (F0 m 2 ls []) := by
    intro n
    induction n with
    | zero =>
      intro k i v hi hk hfu X hX H locs hP hD hS ls hl
      exact absurd hfu (by omega)
    | succ n ih =>
      intro k i v hi hk hfu X hX H locs hP hD hS ls hl
      refine lv_iload_n hx hb dX1_become_2 rfl (lv_at hl 2 rfl) ?_
      refine lv_bipush (v := 10) hx hb dX1_become_3 (by decide) ?_
      refine lv_icmp_ge (tgt := 38) hx hb dX1_become_5 (by decide) (fun c_5 => ?_) (fun c_5 => ?_)
      · refine lv_aload_n hx hb dX1_become_38 rfl (lv_at hl 0 rfl) ?_
        refine lv_aload_n hx hb dX1_become_39 rfl (lv_at hl 1 rfl) ?_
        refine va_get (D := D) (ci := 1) (v := .int b.2.2.1) (C := RX1) (T := TX1) (N := 5) hx hb hts iX1_become_X1 hown hK.1 hP 3 rfl rfl 2 (by decide) (hts (.fieldLink RX1 18 "CompassBias$Samples" "many" "I") (List.mem_of_getElem? (i := 3) rfl)) (fun _ h9 => h9) rfl dX1_become_40 ?_
        refine va_put (D := D) (ci := 1) (v := .int b.2.2.1) (ty := .int) (C := RX1) (T := TX1) (N := 5) hx hb hts iX1_become_X1 tyX1 tyX1_ok nmX1 hown hK.1 hP hD hS 0 rfl rfl 2 (by decide) (hts (.fieldLink RX1 18 "CompassBias$Samples" "many" "I") (List.mem_of_getElem? (i := 3) rfl)) (fun _ h9 => h9) rfl (by decide +kernel) rfl rfl (Nat.le_of_ble_eq_true rfl) dX1_become_43 (fun H locs hP hD hS => ?_)
        have hP : va_P D classes [(h0, .inr (1, [.ref ax, .ref ay, .int b.2.2.1, .int v.2.2.2.1, .int v.2.2.2.2])), (ax, .inl (cI, 10, .inl v.1)), (ay, .inl (cI, 10, .inl v.2.1)), (h1, .inr (1, [.ref bx, .ref bw, .int b.2.2.1, .int b.2.2.2.1, .int b.2.2.2.2])), (bx, .inl (cI, 10, .inl b.1)), (bw, .inl (cI, 10, .inl b.2.1))] H := hP
        have hD : va_D A [(h0, .inr (1, [.ref ax, .ref ay, .int b.2.2.1, .int v.2.2.2.1, .int v.2.2.2.2])), (ax, .inl (cI, 10, .inl v.1)), (ay, .inl (cI, 10, .inl v.2.1)), (h1, .inr (1, [.ref bx, .ref bw, .int b.2.2.1, .int b.2.2.2.1, .int b.2.2.2.2])), (bx, .inl (cI, 10, .inl b.1)), (bw, .inl (cI, 10, .inl b.2.1))] := hD
        refine lv_aload_n hx hb dX1_become_46 rfl (lv_at hl 0 rfl) ?_
        refine lv_aload_n hx hb dX1_become_47 rfl (lv_at hl 1 rfl) ?_
        refine va_get (D := D) (ci := 1) (v := .int b.2.2.2.1) (C := RX1) (T := TX1) (N := 5) hx hb hts iX1_become_X1 hown hK.1 hP 3 rfl rfl 3 (by decide) (hts (.fieldLink RX1 22 "CompassBias$Samples" "taken" "I") (List.mem_of_getElem? (i := 4) rfl)) (fun _ h9 => h9) rfl dX1_become_48 ?_
        refine va_put (D := D) (ci := 1) (v := .int b.2.2.2.1) (ty := .int) (C := RX1) (T := TX1) (N := 5) hx hb hts iX1_become_X1 tyX1 tyX1_ok nmX1 hown hK.1 hP hD hS 0 rfl rfl 3 (by decide) (hts (.fieldLink RX1 22 "CompassBias$Samples" "taken" "I") (List.mem_of_getElem? (i := 4) rfl)) (fun _ h9 => h9) rfl (by decide +kernel) rfl rfl (Nat.le_of_ble_eq_true rfl) dX1_become_51 (fun H locs hP hD hS => ?_)
        have hP : va_P D classes [(h0, .inr (1, [.ref ax, .ref ay, .int b.2.2.1, .int b.2.2.2.1, .int v.2.2.2.2])), (ax, .inl (cI, 10, .inl v.1)), (ay, .inl (cI, 10, .inl v.2.1)), (h1, .inr (1, [.ref bx, .ref bw, .int b.2.2.1, .int b.2.2.2.1, .int b.2.2.2.2])), (bx, .inl (cI, 10, .inl b.1)), (bw, .inl (cI, 10, .inl b.2.1))] H := hP
        have hD : va_D A [(h0, .inr (1, [.ref ax, .ref ay, .int b.2.2.1, .int b.2.2.2.1, .int v.2.2.2.2])), (ax, .inl (cI, 10, .inl v.1)), (ay, .inl (cI, 10, .inl v.2.1)), (h1, .inr (1, [.ref bx, .ref bw, .int b.2.2.1, .int b.2.2.2.1, .int b.2.2.2.2])), (bx, .inl (cI, 10, .inl b.1)), (bw, .inl (cI, 10, .inl b.2.1))] := hD
        refine lv_aload_n hx hb dX1_become_54 rfl (lv_at hl 0 rfl) ?_
        refine lv_aload_n hx hb dX1_become_55 rfl (lv_at hl 1 rfl) ?_
        refine va_get (D := D) (ci := 1) (v := .int b.2.2.2.2) (C := RX1) (T := TX1) (N := 5) hx hb hts iX1_become_X1 hown hK.1 hP 3 rfl rfl 4 (by decide) (hts (.fieldLink RX1 25 "CompassBias$Samples" "needed" "I") (List.mem_of_getElem? (i := 5) rfl)) (fun _ h9 => h9) rfl dX1_become_56 ?_
        refine va_put (D := D) (ci := 1) (v := .int b.2.2.2.2) (ty := .int) (C := RX1) (T := TX1) (N := 5) hx hb hts iX1_become_X1 tyX1 tyX1_ok nmX1 hown hK.1 hP hD hS 0 rfl rfl 4 (by decide) (hts (.fieldLink RX1 25 "CompassBias$Samples" "needed" "I") (List.mem_of_getElem? (i := 5) rfl)) (fun _ h9 => h9) rfl (by decide +kernel) rfl rfl (Nat.le_of_ble_eq_true rfl) dX1_become_59 (fun H locs hP hD hS => ?_)
        have hP : va_P D classes [(h0, .inr (1, [.ref ax, .ref ay, .int b.2.2.1, .int b.2.2.2.1, .int b.2.2.2.2])), (ax, .inl (cI, 10, .inl v.1)), (ay, .inl (cI, 10, .inl v.2.1)), (h1, .inr (1, [.ref bx, .ref bw, .int b.2.2.1, .int b.2.2.2.1, .int b.2.2.2.2])), (bx, .inl (cI, 10, .inl b.1)), (bw, .inl (cI, 10, .inl b.2.1))] H := hP
        have hD : va_D A [(h0, .inr (1, [.ref ax, .ref ay, .int b.2.2.1, .int b.2.2.2.1, .int b.2.2.2.2])), (ax, .inl (cI, 10, .inl v.1)), (ay, .inl (cI, 10, .inl v.2.1)), (h1, .inr (1, [.ref bx, .ref bw, .int b.2.2.1, .int b.2.2.2.1, .int b.2.2.2.2])), (bx, .inl (cI, 10, .inl b.1)), (bw, .inl (cI, 10, .inl b.2.1))] := hD
        exact ret_v C (v.1, v.2.1, b.2.2.1, b.2.2.2.1, b.2.2.2.2) (hX.trans ((if_pos c_5))) hP hD hS dX1_become_62
      · refine lv_aload_n hx hb dX1_become_8 rfl (lv_at hl 0 rfl) ?_
        refine va_get (D := D) (ci := 1) (v := .ref ax) (C := RX1) (T := TX1) (N := 5) hx hb hts iX1_become_X1 hown hK.1 hP 0 rfl rfl 0 (by decide) (hts (.fieldLink RX1 9 "CompassBias$Samples" "xs" "[I") (List.mem_of_getElem? (i := 1) rfl)) (fun _ h9 => h9) rfl dX1_become_9 ?_
        refine lv_iload_n hx hb dX1_become_12 rfl (lv_at hl 2 rfl) ?_
        refine lv_aload_n hx hb dX1_become_13 rfl (lv_at hl 1 rfl) ?_
        refine va_get (D := D) (ci := 1) (v := .ref bx) (C := RX1) (T := TX1) (N := 5) hx hb hts iX1_become_X1 hown hK.1 hP 3 rfl rfl 0 (by decide) (hts (.fieldLink RX1 9 "CompassBias$Samples" "xs" "[I") (List.mem_of_getElem? (i := 1) rfl)) (fun _ h9 => h9) rfl dX1_become_14 ?_
        refine lv_iload_n hx hb dX1_become_17 rfl (lv_at hl 2 rfl) ?_
        refine va_iald hx hb hK.1 hP 4 0 rfl rfl (vp_of hi (i_lt10 hi c_5)) dX1_become_18 ?_
        refine va_iast hx hb hK.1 hP hD hS 1 0 rfl rfl (vp_of hi (i_lt10 hi c_5)) dX1_become_19 (fun H locs hP hD hS => ?_)
        have hP : va_P D classes [(h0, .inr (1, [.ref ax, .ref ay, .int v.2.2.1, .int v.2.2.2.1, .int v.2.2.2.2])), (ax, .inl (cI, 10, .inl (upd v.1 i.toNatClampNeg (b.1 i.toNatClampNeg)))), (ay, .inl (cI, 10, .inl v.2.1)), (h1, .inr (1, [.ref bx, .ref bw, .int b.2.2.1, .int b.2.2.2.1, .int b.2.2.2.2])), (bx, .inl (cI, 10, .inl b.1)), (bw, .inl (cI, 10, .inl b.2.1))] H := hP
        have hD : va_D A [(h0, .inr (1, [.ref ax, .ref ay, .int v.2.2.1, .int v.2.2.2.1, .int v.2.2.2.2])), (ax, .inl (cI, 10, .inl (upd v.1 i.toNatClampNeg (b.1 i.toNatClampNeg)))), (ay, .inl (cI, 10, .inl v.2.1)), (h1, .inr (1, [.ref bx, .ref bw, .int b.2.2.1, .int b.2.2.2.1, .int b.2.2.2.2])), (bx, .inl (cI, 10, .inl b.1)), (bw, .inl (cI, 10, .inl b.2.1))] := hD
        refine lv_aload_n hx hb dX1_become_20 rfl (lv_at hl 0 rfl) ?_
        refine va_get (D := D) (ci := 1) (v := .ref ay) (C := RX1) (T := TX1) (N := 5) hx hb hts iX1_become_X1 hown hK.1 hP 0 rfl rfl 1 (by decide) (hts (.fieldLink RX1 15 "CompassBias$Samples" "ys" "[I") (List.mem_of_getElem? (i := 2) rfl)) (fun _ h9 => h9) rfl dX1_become_21 ?_
        refine lv_iload_n hx hb dX1_become_24 rfl (lv_at hl 2 rfl) ?_
        refine lv_aload_n hx hb dX1_become_25 rfl (lv_at hl 1 rfl) ?_
        refine va_get (D := D) (ci := 1) (v := .ref bw) (C := RX1) (T := TX1) (N := 5) hx hb hts iX1_become_X1 hown hK.1 hP 3 rfl rfl 1 (by decide) (hts (.fieldLink RX1 15 "CompassBias$Samples" "ys" "[I") (List.mem_of_getElem? (i := 2) rfl)) (fun _ h9 => h9) rfl dX1_become_26 ?_
        refine lv_iload_n hx hb dX1_become_29 rfl (lv_at hl 2 rfl) ?_
        refine va_iald hx hb hK.1 hP 5 0 rfl rfl (vp_of hi (i_lt10 hi c_5)) dX1_become_30 ?_
        refine va_iast hx hb hK.1 hP hD hS 2 0 rfl rfl (vp_of hi (i_lt10 hi c_5)) dX1_become_31 (fun H locs hP hD hS => ?_)
        have hP : va_P D classes [(h0, .inr (1, [.ref ax, .ref ay, .int v.2.2.1, .int v.2.2.2.1, .int v.2.2.2.2])), (ax, .inl (cI, 10, .inl (upd v.1 i.toNatClampNeg (b.1 i.toNatClampNeg)))), (ay, .inl (cI, 10, .inl (upd v.2.1 i.toNatClampNeg (b.2.1 i.toNatClampNeg)))), (h1, .inr (1, [.ref bx, .ref bw, .int b.2.2.1, .int b.2.2.2.1, .int b.2.2.2.2])), (bx, .inl (cI, 10, .inl b.1)), (bw, .inl (cI, 10, .inl b.2.1))] H := hP
        have hD : va_D A [(h0, .inr (1, [.ref ax, .ref ay, .int v.2.2.1, .int v.2.2.2.1, .int v.2.2.2.2])), (ax, .inl (cI, 10, .inl (upd v.1 i.toNatClampNeg (b.1 i.toNatClampNeg)))), (ay, .inl (cI, 10, .inl (upd v.2.1 i.toNatClampNeg (b.2.1 i.toNatClampNeg)))), (h1, .inr (1, [.ref bx, .ref bw, .int b.2.2.1, .int b.2.2.2.1, .int b.2.2.2.2])), (bx, .inl (cI, 10, .inl b.1)), (bw, .inl (cI, 10, .inl b.2.1))] := hD
        refine lv_iinc (v := i + 1) (lv' := [(2, .int (i + 1)), (0, .ref h0), (1, .ref h1)]) hx hb dX1_become_32 hl (k := 2) rfl rfl (by decide) rfl (fun ls hl => ?_)
        refine lv_goto (tgt := 2) hx hb dX1_become_35 (by decide) ?_
        exact ih (k + 1) (i + 1) (upd v.1 i.toNatClampNeg (b.1 i.toNatClampNeg), upd v.2.1 i.toNatClampNeg (b.2.1 i.toNatClampNeg), v.2.2.1, v.2.2.2.1, v.2.2.2.2) (i_succ hi (by omega)) (i_lt10 hi c_5) (by omega) X (hX.trans ((if_neg c_5))) _ _ hP hD hS _ (lv_sub hl [1, 2, 0] rfl)
  have hl : lv_has ls 3 [(0, .ref h0), (1, .ref h1)] := hl
  refine lv_iconst (v := 0) hx hb dX1_become_0 (by decide) ?_
  refine lv_istore_n (lv' := [(2, .int 0), (0, .ref h0), (1, .ref h1)]) hx hb dX1_become_1 rfl hl (by decide) rfl (fun ls hl => ?_)
  exact K2 11 0 0 a rfl (by omega) (by omega) (F_X1_become a b) rfl _ _ hP hD hS _ (lv_sub hl [1, 2, 0] rfl)
end
section
def F_X2_isSample (now : Sm) (p0 : Int32) : Int32 := if p0 < 0 then (0) else (if now.2.2.1 ≤ p0 then (0) else (if 10 ≤ p0 then (0) else (1)))
theorem iX2_isSample_X1 : ∀ w ∈ u_ws RX1 TX1 5, w ∈ wsX2_isSample := fun _ h => List.mem_cons_of_mem _ (List.mem_append_right _ (h))
theorem iX2_isSample_X2 : ∀ w ∈ u_ws RX2 TX2 6, w ∈ wsX2_isSample := fun _ h => List.mem_cons_of_mem _ (List.mem_append_left _ (List.mem_append_right _ (h)))
set_option maxHeartbeats 4000000 in
set_option maxRecDepth 100000 in
theorem c_X2_isSample (l : Launch) (D : va_G) (cI cZ : ClassId) (h0 hn hi0 hi1 hR hT nx ny : Nat) (now : Sm) (kp : Int32) (p0 : Int32) : CTi l yX2_isSample wsX2_isSample ({ frames := 0, cells := 0, slots := 0, locals := 0 } : Room) D cI cZ [.ref h0, .int p0] [(h0, .inr (2, [.ref hn, .ref hi0, .ref hi1, .int kp, .ref hR, .ref hT])), (hn, .inr (1, [.ref nx, .ref ny, .int now.2.2.1, .int now.2.2.2.1, .int now.2.2.2.2])), (nx, .inl (cI, 10, .inl now.1)), (ny, .inl (cI, 10, .inl now.2.1))] (S := Unit) (fun z9 _ => F_X2_isSample now p0 = z9) (fun _ => [(h0, .inr (2, [.ref hn, .ref hi0, .ref hi1, .int kp, .ref hR, .ref hT])), (hn, .inr (1, [.ref nx, .ref ny, .int now.2.2.1, .int now.2.2.2.1, .int now.2.2.2.2])), (nx, .inl (cI, 10, .inl now.1)), (ny, .inl (cI, 10, .inl now.2.1))]) := by
  refine enterM (cc := cX2_isSample) (maxL := 2) (ret := (some .boolean)) (own := RX2) (Qc := fun A => va_Qi (S := Unit) (fun z9 _ => F_X2_isSample now p0 = z9) (PoB (S := Unit) D A (fun _ => [(h0, .inr (2, [.ref hn, .ref hi0, .ref hi1, .int kp, .ref hR, .ref hT])), (hn, .inr (1, [.ref nx, .ref ny, .int now.2.2.1, .int now.2.2.2.1, .int now.2.2.2.2])), (nx, .inl (cI, 10, .inl now.1)), (ny, .inl (cI, 10, .inl now.2.1))])) A) (by decide) rfl rfl (Nat.le_of_ble_eq_true rfl) ?_
  intro p e s m below meth c A ls C hK hA hP hD hS hl
  have hx := C.1
  have hb := C.2.1
  have hown := C.2.2.2.1
  have hts := C.2.2.2.2.1
  have _huse := hts
  have hl : lv_has ls 2 [(0, .ref h0), (1, .int p0)] := hl
  refine lv_iload_n hx hb dX2_isSample_0 rfl (lv_at hl 1 rfl) ?_
  refine lv_if_lt (tgt := 25) hx hb dX2_isSample_1 (by decide) (fun c_1 => ?_) (fun c_1 => ?_)
  · refine lv_iconst (v := 0) hx hb dX2_isSample_25 (by decide) ?_
    exact ret_z C (Or.inl rfl) () (if_pos c_1) hP hD hS dX2_isSample_26
  · refine lv_iload_n hx hb dX2_isSample_4 rfl (lv_at hl 1 rfl) ?_
    refine lv_aload_n hx hb dX2_isSample_5 rfl (lv_at hl 0 rfl) ?_
    refine va_get (D := D) (ci := 2) (v := .ref hn) (C := RX2) (T := TX2) (N := 6) hx hb hts iX2_isSample_X2 hown hK.1 hP 0 rfl rfl 0 (by decide) (hts (.fieldLink RX2 12 "CompassBias" "now" "LCompassBias$Samples;") (List.mem_of_getElem? (i := 1) rfl)) (fun _ h9 => h9) rfl dX2_isSample_6 ?_
    refine va_get (D := D) (ci := 1) (v := .int now.2.2.1) (C := RX1) (T := TX1) (N := 5) hx hb hts iX2_isSample_X1 hown hK.1 hP 1 rfl rfl 2 (by decide) (hts (.fieldLink RX2 40 "CompassBias$Samples" "many" "I") (List.mem_of_getElem? (i := 2) rfl)) (fun _ h9 => h9) rfl dX2_isSample_9 ?_
    refine lv_icmp_ge (tgt := 25) hx hb dX2_isSample_12 (by decide) (fun c_12 => ?_) (fun c_12 => ?_)
    · refine lv_iconst (v := 0) hx hb dX2_isSample_25 (by decide) ?_
      exact ret_z C (Or.inl rfl) () ((if_neg c_1).trans ((if_pos c_12))) hP hD hS dX2_isSample_26
    · refine lv_iload_n hx hb dX2_isSample_15 rfl (lv_at hl 1 rfl) ?_
      refine lv_bipush (v := 10) hx hb dX2_isSample_16 (by decide) ?_
      refine lv_icmp_ge (tgt := 25) hx hb dX2_isSample_18 (by decide) (fun c_18 => ?_) (fun c_18 => ?_)
      · refine lv_iconst (v := 0) hx hb dX2_isSample_25 (by decide) ?_
        exact ret_z C (Or.inl rfl) () ((if_neg c_1).trans ((if_neg c_12).trans ((if_pos c_18)))) hP hD hS dX2_isSample_26
      · refine lv_iconst (v := 1) hx hb dX2_isSample_21 (by decide) ?_
        refine lv_goto (tgt := 26) hx hb dX2_isSample_22 (by decide) ?_
        exact ret_z C (Or.inr rfl) () ((if_neg c_1).trans ((if_neg c_12).trans ((if_neg c_18)))) hP hD hS dX2_isSample_26
def F_X2_add (now : Sm) (p0 : Int32) (p1 : Int32) : Int32 × Sm := if (F_X2_isPlace p0 p1) = 0 then (((-2), now)) else (if now.2.2.1 < 0 then (((-4), now)) else (if now.2.2.1 < 10 then ((now.2.2.1, (upd now.1 now.2.2.1.toNatClampNeg p0, upd now.2.1 now.2.2.1.toNatClampNeg p1, now.2.2.1 + 1, now.2.2.2.1 ||| (1 <<< (now.2.2.1 &&& 31)), now.2.2.2.2))) else (((-4), now))))
theorem iX2_add_X1 : ∀ w ∈ u_ws RX1 TX1 5, w ∈ wsX2_add := fun _ h => List.mem_cons_of_mem _ (List.mem_append_right _ (h))
theorem iX2_add_X2 : ∀ w ∈ u_ws RX2 TX2 6, w ∈ wsX2_add := fun _ h => List.mem_cons_of_mem _ (List.mem_append_left _ (List.mem_append_right _ (h)))
set_option maxHeartbeats 4000000 in
set_option maxRecDepth 100000 in
theorem c_X2_add (l : Launch) (D : va_G) (cI cZ : ClassId) (h0 hn hi0 hi1 hR hT nx ny : Nat) (now : Sm) (kp : Int32) (p0 : Int32) (p1 : Int32) : CTi l yX2_add wsX2_add ({ frames := 2, cells := 0, slots := 0, locals := 43 } : Room) D cI cZ [.ref h0, .int p0, .int p1] [(h0, .inr (2, [.ref hn, .ref hi0, .ref hi1, .int kp, .ref hR, .ref hT])), (hn, .inr (1, [.ref nx, .ref ny, .int now.2.2.1, .int now.2.2.2.1, .int now.2.2.2.2])), (nx, .inl (cI, 10, .inl now.1)), (ny, .inl (cI, 10, .inl now.2.1))] (S := Sm) (fun z9 u9 => F_X2_add now p0 p1 = (z9, u9)) (fun u => [(h0, .inr (2, [.ref hn, .ref hi0, .ref hi1, .int kp, .ref hR, .ref hT])), (hn, .inr (1, [.ref nx, .ref ny, .int u.2.2.1, .int u.2.2.2.1, .int u.2.2.2.2])), (nx, .inl (cI, 10, .inl u.1)), (ny, .inl (cI, 10, .inl u.2.1))]) := by
  refine enterM (cc := cX2_add) (maxL := 4) (ret := (some .int)) (own := RX2) (Qc := fun A => va_Qi (S := Sm) (fun z9 u9 => F_X2_add now p0 p1 = (z9, u9)) (PoB (S := Sm) D A (fun u => [(h0, .inr (2, [.ref hn, .ref hi0, .ref hi1, .int kp, .ref hR, .ref hT])), (hn, .inr (1, [.ref nx, .ref ny, .int u.2.2.1, .int u.2.2.2.1, .int u.2.2.2.2])), (nx, .inl (cI, 10, .inl u.1)), (ny, .inl (cI, 10, .inl u.2.1))])) A) (by decide) rfl rfl (Nat.le_of_ble_eq_true rfl) ?_
  intro p e s m below meth c A ls C hK hA hP hD hS hl
  have hx := C.1
  have hb := C.2.1
  have hown := C.2.2.2.1
  have hts := C.2.2.2.2.1
  have _huse := hts
  have hl : lv_has ls 4 [(0, .ref h0), (1, .int p0), (2, .int p1)] := hl
  refine lv_iload_n hx hb dX2_add_0 rfl (lv_at hl 1 rfl) ?_
  refine lv_iload_n hx hb dX2_add_1 rfl (lv_at hl 2 rfl) ?_
  refine aft_i (wr := [(h0, .inr (2, [.ref hn, .ref hi0, .ref hi1, .int kp, .ref hR, .ref hT])), (hn, .inr (1, [.ref nx, .ref ny, .int now.2.2.1, .int now.2.2.2.1, .int now.2.2.2.2])), (nx, .inl (cI, 10, .inl now.1)), (ny, .inl (cI, 10, .inl now.2.1))]) (run_S (As := [.int p0, .int p1]) (rest := []) C (c_X2_isPlace l D cI cZ p0 p1) (va_cwS 2 hts gX2_add_X2_isPlace rfl rfl rfl (by decide +kernel) ⟨Nat.le_of_ble_eq_true rfl, Nat.le_of_ble_eq_true rfl⟩) hK (hP.sub (ws' := []) [] rfl) (hD.sub (ws' := []) [] (by decide) rfl) rfl hl.1 rfl (Nat.le_of_ble_eq_true rfl) dX2_add_2 (Nat.zero_le _) (Nat.zero_le _)) hP hD hS hA [] [0, 1, 2, 3] rfl rfl (by decide) (by decide) (fun r u H locs hw hP hD hS => ?_)
  subst hw
  have hP : va_P D classes [(h0, .inr (2, [.ref hn, .ref hi0, .ref hi1, .int kp, .ref hR, .ref hT])), (hn, .inr (1, [.ref nx, .ref ny, .int now.2.2.1, .int now.2.2.2.1, .int now.2.2.2.2])), (nx, .inl (cI, 10, .inl now.1)), (ny, .inl (cI, 10, .inl now.2.1))] H := hP
  have hD : va_D A [(h0, .inr (2, [.ref hn, .ref hi0, .ref hi1, .int kp, .ref hR, .ref hT])), (hn, .inr (1, [.ref nx, .ref ny, .int now.2.2.1, .int now.2.2.2.1, .int now.2.2.2.2])), (nx, .inl (cI, 10, .inl now.1)), (ny, .inl (cI, 10, .inl now.2.1))] := hD
  refine lv_if_ne (tgt := 11) hx hb dX2_add_5 (by decide) (fun c_5 => ?_) (fun c_5 => ?_)
  · refine lv_aload_n hx hb dX2_add_11 rfl (lv_at hl 0 rfl) ?_
    refine va_get (D := D) (ci := 2) (v := .ref hn) (C := RX2) (T := TX2) (N := 6) hx hb hts iX2_add_X2 hown hK.1 hP 0 rfl rfl 0 (by decide) (hts (.fieldLink RX2 12 "CompassBias" "now" "LCompassBias$Samples;") (List.mem_of_getElem? (i := 1) rfl)) (fun _ h9 => h9) rfl dX2_add_12 ?_
    refine va_get (D := D) (ci := 1) (v := .int now.2.2.1) (C := RX1) (T := TX1) (N := 5) hx hb hts iX2_add_X1 hown hK.1 hP 1 rfl rfl 2 (by decide) (hts (.fieldLink RX2 40 "CompassBias$Samples" "many" "I") (List.mem_of_getElem? (i := 2) rfl)) (fun _ h9 => h9) rfl dX2_add_15 ?_
    refine lv_istore_n (lv' := [(3, .int now.2.2.1), (0, .ref h0), (1, .int p0), (2, .int p1)]) hx hb dX2_add_18 rfl hl (by decide) rfl (fun ls hl => ?_)
    refine lv_iload_n hx hb dX2_add_19 rfl (lv_at hl 0 rfl) ?_
    refine lv_if_lt (tgt := 29) hx hb dX2_add_20 (by decide) (fun c_20 => ?_) (fun c_20 => ?_)
    · refine lv_bipush (v := (-4)) hx hb dX2_add_29 (by decide) ?_
      exact ret_i C now ((if_neg c_5).trans ((if_pos c_20))) hP hD hS dX2_add_31
    · refine lv_iload_n hx hb dX2_add_23 rfl (lv_at hl 0 rfl) ?_
      refine lv_bipush (v := 10) hx hb dX2_add_24 (by decide) ?_
      refine lv_icmp_lt (tgt := 32) hx hb dX2_add_26 (by decide) (fun c_26 => ?_) (fun c_26 => ?_)
      · refine lv_aload_n hx hb dX2_add_32 rfl (lv_at hl 1 rfl) ?_
        refine va_get (D := D) (ci := 2) (v := .ref hn) (C := RX2) (T := TX2) (N := 6) hx hb hts iX2_add_X2 hown hK.1 hP 0 rfl rfl 0 (by decide) (hts (.fieldLink RX2 12 "CompassBias" "now" "LCompassBias$Samples;") (List.mem_of_getElem? (i := 1) rfl)) (fun _ h9 => h9) rfl dX2_add_33 ?_
        refine va_get (D := D) (ci := 1) (v := .ref nx) (C := RX1) (T := TX1) (N := 5) hx hb hts iX2_add_X1 hown hK.1 hP 1 rfl rfl 0 (by decide) (hts (.fieldLink RX2 43 "CompassBias$Samples" "xs" "[I") (List.mem_of_getElem? (i := 3) rfl)) (fun _ h9 => h9) rfl dX2_add_36 ?_
        refine lv_iload_n hx hb dX2_add_39 rfl (lv_at hl 0 rfl) ?_
        refine lv_iload_n hx hb dX2_add_40 rfl (lv_at hl 2 rfl) ?_
        refine va_iast hx hb hK.1 hP hD hS 2 0 rfl rfl (vp_of2 c_20 c_26) dX2_add_41 (fun H locs hP hD hS => ?_)
        have hP : va_P D classes [(h0, .inr (2, [.ref hn, .ref hi0, .ref hi1, .int kp, .ref hR, .ref hT])), (hn, .inr (1, [.ref nx, .ref ny, .int now.2.2.1, .int now.2.2.2.1, .int now.2.2.2.2])), (nx, .inl (cI, 10, .inl (upd now.1 now.2.2.1.toNatClampNeg p0))), (ny, .inl (cI, 10, .inl now.2.1))] H := hP
        have hD : va_D A [(h0, .inr (2, [.ref hn, .ref hi0, .ref hi1, .int kp, .ref hR, .ref hT])), (hn, .inr (1, [.ref nx, .ref ny, .int now.2.2.1, .int now.2.2.2.1, .int now.2.2.2.2])), (nx, .inl (cI, 10, .inl (upd now.1 now.2.2.1.toNatClampNeg p0))), (ny, .inl (cI, 10, .inl now.2.1))] := hD
        refine lv_aload_n hx hb dX2_add_42 rfl (lv_at hl 1 rfl) ?_
        refine va_get (D := D) (ci := 2) (v := .ref hn) (C := RX2) (T := TX2) (N := 6) hx hb hts iX2_add_X2 hown hK.1 hP 0 rfl rfl 0 (by decide) (hts (.fieldLink RX2 12 "CompassBias" "now" "LCompassBias$Samples;") (List.mem_of_getElem? (i := 1) rfl)) (fun _ h9 => h9) rfl dX2_add_43 ?_
        refine va_get (D := D) (ci := 1) (v := .ref ny) (C := RX1) (T := TX1) (N := 5) hx hb hts iX2_add_X1 hown hK.1 hP 1 rfl rfl 1 (by decide) (hts (.fieldLink RX2 47 "CompassBias$Samples" "ys" "[I") (List.mem_of_getElem? (i := 4) rfl)) (fun _ h9 => h9) rfl dX2_add_46 ?_
        refine lv_iload_n hx hb dX2_add_49 rfl (lv_at hl 0 rfl) ?_
        refine lv_iload_n hx hb dX2_add_50 rfl (lv_at hl 3 rfl) ?_
        refine va_iast hx hb hK.1 hP hD hS 3 0 rfl rfl (vp_of2 c_20 c_26) dX2_add_51 (fun H locs hP hD hS => ?_)
        have hP : va_P D classes [(h0, .inr (2, [.ref hn, .ref hi0, .ref hi1, .int kp, .ref hR, .ref hT])), (hn, .inr (1, [.ref nx, .ref ny, .int now.2.2.1, .int now.2.2.2.1, .int now.2.2.2.2])), (nx, .inl (cI, 10, .inl (upd now.1 now.2.2.1.toNatClampNeg p0))), (ny, .inl (cI, 10, .inl (upd now.2.1 now.2.2.1.toNatClampNeg p1)))] H := hP
        have hD : va_D A [(h0, .inr (2, [.ref hn, .ref hi0, .ref hi1, .int kp, .ref hR, .ref hT])), (hn, .inr (1, [.ref nx, .ref ny, .int now.2.2.1, .int now.2.2.2.1, .int now.2.2.2.2])), (nx, .inl (cI, 10, .inl (upd now.1 now.2.2.1.toNatClampNeg p0))), (ny, .inl (cI, 10, .inl (upd now.2.1 now.2.2.1.toNatClampNeg p1)))] := hD
        refine lv_aload_n hx hb dX2_add_52 rfl (lv_at hl 1 rfl) ?_
        refine va_get (D := D) (ci := 2) (v := .ref hn) (C := RX2) (T := TX2) (N := 6) hx hb hts iX2_add_X2 hown hK.1 hP 0 rfl rfl 0 (by decide) (hts (.fieldLink RX2 12 "CompassBias" "now" "LCompassBias$Samples;") (List.mem_of_getElem? (i := 1) rfl)) (fun _ h9 => h9) rfl dX2_add_53 ?_
        refine lv_dup hx hb dX2_add_56 rfl ?_
        refine va_get (D := D) (ci := 1) (v := .int now.2.2.2.1) (C := RX1) (T := TX1) (N := 5) hx hb hts iX2_add_X1 hown hK.1 hP 1 rfl rfl 3 (by decide) (hts (.fieldLink RX2 50 "CompassBias$Samples" "taken" "I") (List.mem_of_getElem? (i := 5) rfl)) (fun _ h9 => h9) rfl dX2_add_57 ?_
        refine lv_iconst (v := 1) hx hb dX2_add_60 (by decide) ?_
        refine lv_iload_n hx hb dX2_add_61 rfl (lv_at hl 0 rfl) ?_
        refine lv_ishl hx hb dX2_add_62 ?_
        refine lv_ior hx hb dX2_add_63 ?_
        refine va_put (D := D) (ci := 1) (v := .int (now.2.2.2.1 ||| (1 <<< (now.2.2.1 &&& 31)))) (ty := .int) (C := RX1) (T := TX1) (N := 5) hx hb hts iX2_add_X1 tyX1 tyX1_ok nmX1 hown hK.1 hP hD hS 1 rfl rfl 3 (by decide) (hts (.fieldLink RX2 50 "CompassBias$Samples" "taken" "I") (List.mem_of_getElem? (i := 5) rfl)) (fun _ h9 => h9) rfl (by decide +kernel) rfl rfl (Nat.le_of_ble_eq_true rfl) dX2_add_64 (fun H locs hP hD hS => ?_)
        have hP : va_P D classes [(h0, .inr (2, [.ref hn, .ref hi0, .ref hi1, .int kp, .ref hR, .ref hT])), (hn, .inr (1, [.ref nx, .ref ny, .int now.2.2.1, .int (now.2.2.2.1 ||| (1 <<< (now.2.2.1 &&& 31))), .int now.2.2.2.2])), (nx, .inl (cI, 10, .inl (upd now.1 now.2.2.1.toNatClampNeg p0))), (ny, .inl (cI, 10, .inl (upd now.2.1 now.2.2.1.toNatClampNeg p1)))] H := hP
        have hD : va_D A [(h0, .inr (2, [.ref hn, .ref hi0, .ref hi1, .int kp, .ref hR, .ref hT])), (hn, .inr (1, [.ref nx, .ref ny, .int now.2.2.1, .int (now.2.2.2.1 ||| (1 <<< (now.2.2.1 &&& 31))), .int now.2.2.2.2])), (nx, .inl (cI, 10, .inl (upd now.1 now.2.2.1.toNatClampNeg p0))), (ny, .inl (cI, 10, .inl (upd now.2.1 now.2.2.1.toNatClampNeg p1)))] := hD
        refine lv_aload_n hx hb dX2_add_67 rfl (lv_at hl 1 rfl) ?_
        refine va_get (D := D) (ci := 2) (v := .ref hn) (C := RX2) (T := TX2) (N := 6) hx hb hts iX2_add_X2 hown hK.1 hP 0 rfl rfl 0 (by decide) (hts (.fieldLink RX2 12 "CompassBias" "now" "LCompassBias$Samples;") (List.mem_of_getElem? (i := 1) rfl)) (fun _ h9 => h9) rfl dX2_add_68 ?_
        refine lv_iload_n hx hb dX2_add_71 rfl (lv_at hl 0 rfl) ?_
        refine lv_iconst (v := 1) hx hb dX2_add_72 (by decide) ?_
        refine lv_iadd hx hb dX2_add_73 ?_
        refine va_put (D := D) (ci := 1) (v := .int (now.2.2.1 + 1)) (ty := .int) (C := RX1) (T := TX1) (N := 5) hx hb hts iX2_add_X1 tyX1 tyX1_ok nmX1 hown hK.1 hP hD hS 1 rfl rfl 2 (by decide) (hts (.fieldLink RX2 40 "CompassBias$Samples" "many" "I") (List.mem_of_getElem? (i := 2) rfl)) (fun _ h9 => h9) rfl (by decide +kernel) rfl rfl (Nat.le_of_ble_eq_true rfl) dX2_add_74 (fun H locs hP hD hS => ?_)
        have hP : va_P D classes [(h0, .inr (2, [.ref hn, .ref hi0, .ref hi1, .int kp, .ref hR, .ref hT])), (hn, .inr (1, [.ref nx, .ref ny, .int (now.2.2.1 + 1), .int (now.2.2.2.1 ||| (1 <<< (now.2.2.1 &&& 31))), .int now.2.2.2.2])), (nx, .inl (cI, 10, .inl (upd now.1 now.2.2.1.toNatClampNeg p0))), (ny, .inl (cI, 10, .inl (upd now.2.1 now.2.2.1.toNatClampNeg p1)))] H := hP
        have hD : va_D A [(h0, .inr (2, [.ref hn, .ref hi0, .ref hi1, .int kp, .ref hR, .ref hT])), (hn, .inr (1, [.ref nx, .ref ny, .int (now.2.2.1 + 1), .int (now.2.2.2.1 ||| (1 <<< (now.2.2.1 &&& 31))), .int now.2.2.2.2])), (nx, .inl (cI, 10, .inl (upd now.1 now.2.2.1.toNatClampNeg p0))), (ny, .inl (cI, 10, .inl (upd now.2.1 now.2.2.1.toNatClampNeg p1)))] := hD
        refine lv_iload_n hx hb dX2_add_77 rfl (lv_at hl 0 rfl) ?_
        exact ret_i C (upd now.1 now.2.2.1.toNatClampNeg p0, upd now.2.1 now.2.2.1.toNatClampNeg p1, now.2.2.1 + 1, now.2.2.2.1 ||| (1 <<< (now.2.2.1 &&& 31)), now.2.2.2.2) ((if_neg c_5).trans ((if_neg c_20).trans ((if_pos c_26)))) hP hD hS dX2_add_78
      · refine lv_bipush (v := (-4)) hx hb dX2_add_29 (by decide) ?_
        exact ret_i C now ((if_neg c_5).trans ((if_neg c_20).trans ((if_neg c_26)))) hP hD hS dX2_add_31
  · refine lv_bipush (v := (-2)) hx hb dX2_add_8 (by decide) ?_
    exact ret_i C now (if_pos c_5) hP hD hS dX2_add_10
def F_X2_clear (now : Sm) : Int32 × Sm := (now.2.2.1, (now.1, now.2.1, 0, 0, now.2.2.2.2))
theorem iX2_clear_X1 : ∀ w ∈ u_ws RX1 TX1 5, w ∈ wsX2_clear := fun _ h => List.mem_cons_of_mem _ (List.mem_append_right _ (h))
theorem iX2_clear_X2 : ∀ w ∈ u_ws RX2 TX2 6, w ∈ wsX2_clear := fun _ h => List.mem_cons_of_mem _ (List.mem_append_left _ (List.mem_append_right _ (h)))
set_option maxHeartbeats 4000000 in
set_option maxRecDepth 100000 in
theorem c_X2_clear (l : Launch) (D : va_G) (cI cZ : ClassId) (h0 hn hi0 hi1 hR hT nx ny : Nat) (now : Sm) (kp : Int32) : CTi l yX2_clear wsX2_clear ({ frames := 0, cells := 0, slots := 0, locals := 0 } : Room) D cI cZ [.ref h0] [(h0, .inr (2, [.ref hn, .ref hi0, .ref hi1, .int kp, .ref hR, .ref hT])), (hn, .inr (1, [.ref nx, .ref ny, .int now.2.2.1, .int now.2.2.2.1, .int now.2.2.2.2])), (nx, .inl (cI, 10, .inl now.1)), (ny, .inl (cI, 10, .inl now.2.1))] (S := Sm) (fun z9 u9 => F_X2_clear now = (z9, u9)) (fun u => [(h0, .inr (2, [.ref hn, .ref hi0, .ref hi1, .int kp, .ref hR, .ref hT])), (hn, .inr (1, [.ref nx, .ref ny, .int u.2.2.1, .int u.2.2.2.1, .int u.2.2.2.2])), (nx, .inl (cI, 10, .inl u.1)), (ny, .inl (cI, 10, .inl u.2.1))]) := by
  refine enterM (cc := cX2_clear) (maxL := 2) (ret := (some .int)) (own := RX2) (Qc := fun A => va_Qi (S := Sm) (fun z9 u9 => F_X2_clear now = (z9, u9)) (PoB (S := Sm) D A (fun u => [(h0, .inr (2, [.ref hn, .ref hi0, .ref hi1, .int kp, .ref hR, .ref hT])), (hn, .inr (1, [.ref nx, .ref ny, .int u.2.2.1, .int u.2.2.2.1, .int u.2.2.2.2])), (nx, .inl (cI, 10, .inl u.1)), (ny, .inl (cI, 10, .inl u.2.1))])) A) (by decide) rfl rfl (Nat.le_of_ble_eq_true rfl) ?_
  intro p e s m below meth c A ls C hK hA hP hD hS hl
  have hx := C.1
  have hb := C.2.1
  have hown := C.2.2.2.1
  have hts := C.2.2.2.2.1
  have _huse := hts
  have hl : lv_has ls 2 [(0, .ref h0)] := hl
  refine lv_aload_n hx hb dX2_clear_0 rfl (lv_at hl 0 rfl) ?_
  refine va_get (D := D) (ci := 2) (v := .ref hn) (C := RX2) (T := TX2) (N := 6) hx hb hts iX2_clear_X2 hown hK.1 hP 0 rfl rfl 0 (by decide) (hts (.fieldLink RX2 12 "CompassBias" "now" "LCompassBias$Samples;") (List.mem_of_getElem? (i := 1) rfl)) (fun _ h9 => h9) rfl dX2_clear_1 ?_
  refine va_get (D := D) (ci := 1) (v := .int now.2.2.1) (C := RX1) (T := TX1) (N := 5) hx hb hts iX2_clear_X1 hown hK.1 hP 1 rfl rfl 2 (by decide) (hts (.fieldLink RX2 40 "CompassBias$Samples" "many" "I") (List.mem_of_getElem? (i := 2) rfl)) (fun _ h9 => h9) rfl dX2_clear_4 ?_
  refine lv_istore_n (lv' := [(1, .int now.2.2.1), (0, .ref h0)]) hx hb dX2_clear_7 rfl hl (by decide) rfl (fun ls hl => ?_)
  refine lv_aload_n hx hb dX2_clear_8 rfl (lv_at hl 1 rfl) ?_
  refine va_get (D := D) (ci := 2) (v := .ref hn) (C := RX2) (T := TX2) (N := 6) hx hb hts iX2_clear_X2 hown hK.1 hP 0 rfl rfl 0 (by decide) (hts (.fieldLink RX2 12 "CompassBias" "now" "LCompassBias$Samples;") (List.mem_of_getElem? (i := 1) rfl)) (fun _ h9 => h9) rfl dX2_clear_9 ?_
  refine lv_iconst (v := 0) hx hb dX2_clear_12 (by decide) ?_
  refine va_put (D := D) (ci := 1) (v := .int 0) (ty := .int) (C := RX1) (T := TX1) (N := 5) hx hb hts iX2_clear_X1 tyX1 tyX1_ok nmX1 hown hK.1 hP hD hS 1 rfl rfl 2 (by decide) (hts (.fieldLink RX2 40 "CompassBias$Samples" "many" "I") (List.mem_of_getElem? (i := 2) rfl)) (fun _ h9 => h9) rfl (by decide +kernel) rfl rfl (Nat.le_of_ble_eq_true rfl) dX2_clear_13 (fun H locs hP hD hS => ?_)
  have hP : va_P D classes [(h0, .inr (2, [.ref hn, .ref hi0, .ref hi1, .int kp, .ref hR, .ref hT])), (hn, .inr (1, [.ref nx, .ref ny, .int 0, .int now.2.2.2.1, .int now.2.2.2.2])), (nx, .inl (cI, 10, .inl now.1)), (ny, .inl (cI, 10, .inl now.2.1))] H := hP
  have hD : va_D A [(h0, .inr (2, [.ref hn, .ref hi0, .ref hi1, .int kp, .ref hR, .ref hT])), (hn, .inr (1, [.ref nx, .ref ny, .int 0, .int now.2.2.2.1, .int now.2.2.2.2])), (nx, .inl (cI, 10, .inl now.1)), (ny, .inl (cI, 10, .inl now.2.1))] := hD
  refine lv_aload_n hx hb dX2_clear_16 rfl (lv_at hl 1 rfl) ?_
  refine va_get (D := D) (ci := 2) (v := .ref hn) (C := RX2) (T := TX2) (N := 6) hx hb hts iX2_clear_X2 hown hK.1 hP 0 rfl rfl 0 (by decide) (hts (.fieldLink RX2 12 "CompassBias" "now" "LCompassBias$Samples;") (List.mem_of_getElem? (i := 1) rfl)) (fun _ h9 => h9) rfl dX2_clear_17 ?_
  refine lv_iconst (v := 0) hx hb dX2_clear_20 (by decide) ?_
  refine va_put (D := D) (ci := 1) (v := .int 0) (ty := .int) (C := RX1) (T := TX1) (N := 5) hx hb hts iX2_clear_X1 tyX1 tyX1_ok nmX1 hown hK.1 hP hD hS 1 rfl rfl 3 (by decide) (hts (.fieldLink RX2 50 "CompassBias$Samples" "taken" "I") (List.mem_of_getElem? (i := 3) rfl)) (fun _ h9 => h9) rfl (by decide +kernel) rfl rfl (Nat.le_of_ble_eq_true rfl) dX2_clear_21 (fun H locs hP hD hS => ?_)
  have hP : va_P D classes [(h0, .inr (2, [.ref hn, .ref hi0, .ref hi1, .int kp, .ref hR, .ref hT])), (hn, .inr (1, [.ref nx, .ref ny, .int 0, .int 0, .int now.2.2.2.2])), (nx, .inl (cI, 10, .inl now.1)), (ny, .inl (cI, 10, .inl now.2.1))] H := hP
  have hD : va_D A [(h0, .inr (2, [.ref hn, .ref hi0, .ref hi1, .int kp, .ref hR, .ref hT])), (hn, .inr (1, [.ref nx, .ref ny, .int 0, .int 0, .int now.2.2.2.2])), (nx, .inl (cI, 10, .inl now.1)), (ny, .inl (cI, 10, .inl now.2.1))] := hD
  refine lv_iload_n hx hb dX2_clear_24 rfl (lv_at hl 0 rfl) ?_
  exact ret_i C (now.1, now.2.1, 0, 0, now.2.2.2.2) rfl hP hD hS dX2_clear_25
def F_X2_take (now : Sm) (p0 : Int32) (p1 : Int32) : Int32 × Sm := if (F_X2_isSample now p0) = 0 then (((-1), now)) else (if (F_X2_isBetween p1 0 1) = 0 then (((-2), now)) else (if p1 = 1 then ((F_J6_bitCount_0f7a4 (now.2.2.2.1 ||| (1 <<< (p0 &&& 31))), (now.1, now.2.1, now.2.2.1, now.2.2.2.1 ||| (1 <<< (p0 &&& 31)), now.2.2.2.2))) else ((F_J6_bitCount_0f7a4 (now.2.2.2.1 &&& ((1 <<< (p0 &&& 31)) ^^^ (-1))), (now.1, now.2.1, now.2.2.1, now.2.2.2.1 &&& ((1 <<< (p0 &&& 31)) ^^^ (-1)), now.2.2.2.2)))))
theorem iX2_take_X1 : ∀ w ∈ u_ws RX1 TX1 5, w ∈ wsX2_take := fun _ h => List.mem_cons_of_mem _ (List.mem_append_right _ (h))
theorem iX2_take_X2 : ∀ w ∈ u_ws RX2 TX2 6, w ∈ wsX2_take := fun _ h => List.mem_cons_of_mem _ (List.mem_append_left _ (List.mem_append_right _ (h)))
set_option maxHeartbeats 4000000 in
set_option maxRecDepth 100000 in
theorem c_X2_take (l : Launch) (D : va_G) (cI cZ : ClassId) (h0 hn hi0 hi1 hR hT nx ny : Nat) (now : Sm) (kp : Int32) (p0 : Int32) (p1 : Int32) : CTi l yX2_take wsX2_take ({ frames := 1, cells := 0, slots := 0, locals := 22 } : Room) D cI cZ [.ref h0, .int p0, .int p1] [(h0, .inr (2, [.ref hn, .ref hi0, .ref hi1, .int kp, .ref hR, .ref hT])), (hn, .inr (1, [.ref nx, .ref ny, .int now.2.2.1, .int now.2.2.2.1, .int now.2.2.2.2])), (nx, .inl (cI, 10, .inl now.1)), (ny, .inl (cI, 10, .inl now.2.1))] (S := Sm) (fun z9 u9 => F_X2_take now p0 p1 = (z9, u9)) (fun u => [(h0, .inr (2, [.ref hn, .ref hi0, .ref hi1, .int kp, .ref hR, .ref hT])), (hn, .inr (1, [.ref nx, .ref ny, .int u.2.2.1, .int u.2.2.2.1, .int u.2.2.2.2])), (nx, .inl (cI, 10, .inl u.1)), (ny, .inl (cI, 10, .inl u.2.1))]) := by
  refine enterM (cc := cX2_take) (maxL := 3) (ret := (some .int)) (own := RX2) (Qc := fun A => va_Qi (S := Sm) (fun z9 u9 => F_X2_take now p0 p1 = (z9, u9)) (PoB (S := Sm) D A (fun u => [(h0, .inr (2, [.ref hn, .ref hi0, .ref hi1, .int kp, .ref hR, .ref hT])), (hn, .inr (1, [.ref nx, .ref ny, .int u.2.2.1, .int u.2.2.2.1, .int u.2.2.2.2])), (nx, .inl (cI, 10, .inl u.1)), (ny, .inl (cI, 10, .inl u.2.1))])) A) (by decide) rfl rfl (Nat.le_of_ble_eq_true rfl) ?_
  intro p e s m below meth c A ls C hK hA hP hD hS hl
  have hx := C.1
  have hb := C.2.1
  have hown := C.2.2.2.1
  have hts := C.2.2.2.2.1
  have _huse := hts
  have hl : lv_has ls 3 [(0, .ref h0), (1, .int p0), (2, .int p1)] := hl
  refine lv_aload_n hx hb dX2_take_0 rfl (lv_at hl 0 rfl) ?_
  refine lv_iload_n hx hb dX2_take_1 rfl (lv_at hl 1 rfl) ?_
  refine aft_i (wr := []) (run_V (As := [.int p0]) (rest := []) C (c_X2_isSample l D cI cZ h0 hn hi0 hi1 hR hT nx ny now kp p0) (cwV 1 hts gX2_take_X2_isSample rfl rfl rfl (by decide +kernel) ⟨Nat.le_of_ble_eq_true rfl, Nat.le_of_ble_eq_true rfl⟩) hK (hP.sub (ws' := [(h0, .inr (2, [.ref hn, .ref hi0, .ref hi1, .int kp, .ref hR, .ref hT])), (hn, .inr (1, [.ref nx, .ref ny, .int now.2.2.1, .int now.2.2.2.1, .int now.2.2.2.2])), (nx, .inl (cI, 10, .inl now.1)), (ny, .inl (cI, 10, .inl now.2.1))]) [0, 1, 2, 3] rfl) (hD.sub (ws' := [(h0, .inr (2, [.ref hn, .ref hi0, .ref hi1, .int kp, .ref hR, .ref hT])), (hn, .inr (1, [.ref nx, .ref ny, .int now.2.2.1, .int now.2.2.2.1, .int now.2.2.2.2])), (nx, .inl (cI, 10, .inl now.1)), (ny, .inl (cI, 10, .inl now.2.1))]) [0, 1, 2, 3] (by decide) rfl) 0 2 rfl rfl rfl rfl hl.1 rfl (Nat.le_of_ble_eq_true rfl) dX2_take_2 (Nat.zero_le _) (Nat.zero_le _)) hP hD hS hA [0, 1, 2, 3] [] rfl rfl (by decide) (by decide) (fun r u H locs hw hP hD hS => ?_)
  subst hw
  have hP : va_P D classes [(h0, .inr (2, [.ref hn, .ref hi0, .ref hi1, .int kp, .ref hR, .ref hT])), (hn, .inr (1, [.ref nx, .ref ny, .int now.2.2.1, .int now.2.2.2.1, .int now.2.2.2.2])), (nx, .inl (cI, 10, .inl now.1)), (ny, .inl (cI, 10, .inl now.2.1))] H := hP
  have hD : va_D A [(h0, .inr (2, [.ref hn, .ref hi0, .ref hi1, .int kp, .ref hR, .ref hT])), (hn, .inr (1, [.ref nx, .ref ny, .int now.2.2.1, .int now.2.2.2.1, .int now.2.2.2.2])), (nx, .inl (cI, 10, .inl now.1)), (ny, .inl (cI, 10, .inl now.2.1))] := hD
  refine lv_if_ne (tgt := 10) hx hb dX2_take_5 (by decide) (fun c_5 => ?_) (fun c_5 => ?_)
  · refine lv_iload_n hx hb dX2_take_10 rfl (lv_at hl 2 rfl) ?_
    refine lv_iconst (v := 0) hx hb dX2_take_11 (by decide) ?_
    refine lv_iconst (v := 1) hx hb dX2_take_12 (by decide) ?_
    refine aft_i (wr := [(h0, .inr (2, [.ref hn, .ref hi0, .ref hi1, .int kp, .ref hR, .ref hT])), (hn, .inr (1, [.ref nx, .ref ny, .int now.2.2.1, .int now.2.2.2.1, .int now.2.2.2.2])), (nx, .inl (cI, 10, .inl now.1)), (ny, .inl (cI, 10, .inl now.2.1))]) (run_S (As := [.int p1, .int 0, .int 1]) (rest := []) C (c_X2_isBetween l D cI cZ p1 0 1) (va_cwS 3 hts gX2_take_X2_isBetween rfl rfl rfl (by decide +kernel) ⟨Nat.le_of_ble_eq_true rfl, Nat.le_of_ble_eq_true rfl⟩) hK (hP.sub (ws' := []) [] rfl) (hD.sub (ws' := []) [] (by decide) rfl) rfl hl.1 rfl (Nat.le_of_ble_eq_true rfl) dX2_take_13 (Nat.zero_le _) (Nat.zero_le _)) hP hD hS hA [] [0, 1, 2, 3] rfl rfl (by decide) (by decide) (fun r u H locs hw hP hD hS => ?_)
    subst hw
    have hP : va_P D classes [(h0, .inr (2, [.ref hn, .ref hi0, .ref hi1, .int kp, .ref hR, .ref hT])), (hn, .inr (1, [.ref nx, .ref ny, .int now.2.2.1, .int now.2.2.2.1, .int now.2.2.2.2])), (nx, .inl (cI, 10, .inl now.1)), (ny, .inl (cI, 10, .inl now.2.1))] H := hP
    have hD : va_D A [(h0, .inr (2, [.ref hn, .ref hi0, .ref hi1, .int kp, .ref hR, .ref hT])), (hn, .inr (1, [.ref nx, .ref ny, .int now.2.2.1, .int now.2.2.2.1, .int now.2.2.2.2])), (nx, .inl (cI, 10, .inl now.1)), (ny, .inl (cI, 10, .inl now.2.1))] := hD
    refine lv_if_ne (tgt := 22) hx hb dX2_take_16 (by decide) (fun c_16 => ?_) (fun c_16 => ?_)
    · refine lv_iload_n hx hb dX2_take_22 rfl (lv_at hl 2 rfl) ?_
      refine lv_iconst (v := 1) hx hb dX2_take_23 (by decide) ?_
      refine lv_icmp_ne (tgt := 45) hx hb dX2_take_24 (by decide) (fun c_24 => ?_) (fun c_24 => ?_)
      · refine lv_aload_n hx hb dX2_take_45 rfl (lv_at hl 0 rfl) ?_
        refine va_get (D := D) (ci := 2) (v := .ref hn) (C := RX2) (T := TX2) (N := 6) hx hb hts iX2_take_X2 hown hK.1 hP 0 rfl rfl 0 (by decide) (hts (.fieldLink RX2 12 "CompassBias" "now" "LCompassBias$Samples;") (List.mem_of_getElem? (i := 1) rfl)) (fun _ h9 => h9) rfl dX2_take_46 ?_
        refine lv_dup hx hb dX2_take_49 rfl ?_
        refine va_get (D := D) (ci := 1) (v := .int now.2.2.2.1) (C := RX1) (T := TX1) (N := 5) hx hb hts iX2_take_X1 hown hK.1 hP 1 rfl rfl 3 (by decide) (hts (.fieldLink RX2 50 "CompassBias$Samples" "taken" "I") (List.mem_of_getElem? (i := 2) rfl)) (fun _ h9 => h9) rfl dX2_take_50 ?_
        refine lv_iconst (v := 1) hx hb dX2_take_53 (by decide) ?_
        refine lv_iload_n hx hb dX2_take_54 rfl (lv_at hl 1 rfl) ?_
        refine lv_ishl hx hb dX2_take_55 ?_
        refine lv_iconst (v := (-1)) hx hb dX2_take_56 (by decide) ?_
        refine lv_ixor hx hb dX2_take_57 ?_
        refine lv_iand hx hb dX2_take_58 ?_
        refine va_put (D := D) (ci := 1) (v := .int (now.2.2.2.1 &&& ((1 <<< (p0 &&& 31)) ^^^ (-1)))) (ty := .int) (C := RX1) (T := TX1) (N := 5) hx hb hts iX2_take_X1 tyX1 tyX1_ok nmX1 hown hK.1 hP hD hS 1 rfl rfl 3 (by decide) (hts (.fieldLink RX2 50 "CompassBias$Samples" "taken" "I") (List.mem_of_getElem? (i := 2) rfl)) (fun _ h9 => h9) rfl (by decide +kernel) rfl rfl (Nat.le_of_ble_eq_true rfl) dX2_take_59 (fun H locs hP hD hS => ?_)
        have hP : va_P D classes [(h0, .inr (2, [.ref hn, .ref hi0, .ref hi1, .int kp, .ref hR, .ref hT])), (hn, .inr (1, [.ref nx, .ref ny, .int now.2.2.1, .int (now.2.2.2.1 &&& ((1 <<< (p0 &&& 31)) ^^^ (-1))), .int now.2.2.2.2])), (nx, .inl (cI, 10, .inl now.1)), (ny, .inl (cI, 10, .inl now.2.1))] H := hP
        have hD : va_D A [(h0, .inr (2, [.ref hn, .ref hi0, .ref hi1, .int kp, .ref hR, .ref hT])), (hn, .inr (1, [.ref nx, .ref ny, .int now.2.2.1, .int (now.2.2.2.1 &&& ((1 <<< (p0 &&& 31)) ^^^ (-1))), .int now.2.2.2.2])), (nx, .inl (cI, 10, .inl now.1)), (ny, .inl (cI, 10, .inl now.2.1))] := hD
        refine lv_aload_n hx hb dX2_take_62 rfl (lv_at hl 0 rfl) ?_
        refine va_get (D := D) (ci := 2) (v := .ref hn) (C := RX2) (T := TX2) (N := 6) hx hb hts iX2_take_X2 hown hK.1 hP 0 rfl rfl 0 (by decide) (hts (.fieldLink RX2 12 "CompassBias" "now" "LCompassBias$Samples;") (List.mem_of_getElem? (i := 1) rfl)) (fun _ h9 => h9) rfl dX2_take_63 ?_
        refine va_get (D := D) (ci := 1) (v := .int (now.2.2.2.1 &&& ((1 <<< (p0 &&& 31)) ^^^ (-1)))) (C := RX1) (T := TX1) (N := 5) hx hb hts iX2_take_X1 hown hK.1 hP 1 rfl rfl 3 (by decide) (hts (.fieldLink RX2 50 "CompassBias$Samples" "taken" "I") (List.mem_of_getElem? (i := 2) rfl)) (fun _ h9 => h9) rfl dX2_take_66 ?_
        refine aft_i (wr := [(h0, .inr (2, [.ref hn, .ref hi0, .ref hi1, .int kp, .ref hR, .ref hT])), (hn, .inr (1, [.ref nx, .ref ny, .int now.2.2.1, .int (now.2.2.2.1 &&& ((1 <<< (p0 &&& 31)) ^^^ (-1))), .int now.2.2.2.2])), (nx, .inl (cI, 10, .inl now.1)), (ny, .inl (cI, 10, .inl now.2.1))]) (run_S (As := [.int (now.2.2.2.1 &&& ((1 <<< (p0 &&& 31)) ^^^ (-1)))]) (rest := []) C (c_J6_bitCount_0f7a4 l D cI cZ (now.2.2.2.1 &&& ((1 <<< (p0 &&& 31)) ^^^ (-1)))) (va_cwS 1 hts gX2_take_J6_bitCount_0f7a4 rfl rfl rfl (by decide +kernel) ⟨Nat.le_of_ble_eq_true rfl, Nat.le_of_ble_eq_true rfl⟩) hK (hP.sub (ws' := []) [] rfl) (hD.sub (ws' := []) [] (by decide) rfl) rfl hl.1 rfl (Nat.le_of_ble_eq_true rfl) dX2_take_69 (Nat.zero_le _) (Nat.zero_le _)) hP hD hS hA [] [0, 1, 2, 3] rfl rfl (by decide) (by decide) (fun r u H locs hw hP hD hS => ?_)
        subst hw
        have hP : va_P D classes [(h0, .inr (2, [.ref hn, .ref hi0, .ref hi1, .int kp, .ref hR, .ref hT])), (hn, .inr (1, [.ref nx, .ref ny, .int now.2.2.1, .int (now.2.2.2.1 &&& ((1 <<< (p0 &&& 31)) ^^^ (-1))), .int now.2.2.2.2])), (nx, .inl (cI, 10, .inl now.1)), (ny, .inl (cI, 10, .inl now.2.1))] H := hP
        have hD : va_D A [(h0, .inr (2, [.ref hn, .ref hi0, .ref hi1, .int kp, .ref hR, .ref hT])), (hn, .inr (1, [.ref nx, .ref ny, .int now.2.2.1, .int (now.2.2.2.1 &&& ((1 <<< (p0 &&& 31)) ^^^ (-1))), .int now.2.2.2.2])), (nx, .inl (cI, 10, .inl now.1)), (ny, .inl (cI, 10, .inl now.2.1))] := hD
        exact ret_i C (now.1, now.2.1, now.2.2.1, now.2.2.2.1 &&& ((1 <<< (p0 &&& 31)) ^^^ (-1)), now.2.2.2.2) ((if_neg c_5).trans ((if_neg c_16).trans ((if_neg c_24)))) hP hD hS dX2_take_72
      · refine lv_aload_n hx hb dX2_take_27 rfl (lv_at hl 0 rfl) ?_
        refine va_get (D := D) (ci := 2) (v := .ref hn) (C := RX2) (T := TX2) (N := 6) hx hb hts iX2_take_X2 hown hK.1 hP 0 rfl rfl 0 (by decide) (hts (.fieldLink RX2 12 "CompassBias" "now" "LCompassBias$Samples;") (List.mem_of_getElem? (i := 1) rfl)) (fun _ h9 => h9) rfl dX2_take_28 ?_
        refine lv_dup hx hb dX2_take_31 rfl ?_
        refine va_get (D := D) (ci := 1) (v := .int now.2.2.2.1) (C := RX1) (T := TX1) (N := 5) hx hb hts iX2_take_X1 hown hK.1 hP 1 rfl rfl 3 (by decide) (hts (.fieldLink RX2 50 "CompassBias$Samples" "taken" "I") (List.mem_of_getElem? (i := 2) rfl)) (fun _ h9 => h9) rfl dX2_take_32 ?_
        refine lv_iconst (v := 1) hx hb dX2_take_35 (by decide) ?_
        refine lv_iload_n hx hb dX2_take_36 rfl (lv_at hl 1 rfl) ?_
        refine lv_ishl hx hb dX2_take_37 ?_
        refine lv_ior hx hb dX2_take_38 ?_
        refine va_put (D := D) (ci := 1) (v := .int (now.2.2.2.1 ||| (1 <<< (p0 &&& 31)))) (ty := .int) (C := RX1) (T := TX1) (N := 5) hx hb hts iX2_take_X1 tyX1 tyX1_ok nmX1 hown hK.1 hP hD hS 1 rfl rfl 3 (by decide) (hts (.fieldLink RX2 50 "CompassBias$Samples" "taken" "I") (List.mem_of_getElem? (i := 2) rfl)) (fun _ h9 => h9) rfl (by decide +kernel) rfl rfl (Nat.le_of_ble_eq_true rfl) dX2_take_39 (fun H locs hP hD hS => ?_)
        have hP : va_P D classes [(h0, .inr (2, [.ref hn, .ref hi0, .ref hi1, .int kp, .ref hR, .ref hT])), (hn, .inr (1, [.ref nx, .ref ny, .int now.2.2.1, .int (now.2.2.2.1 ||| (1 <<< (p0 &&& 31))), .int now.2.2.2.2])), (nx, .inl (cI, 10, .inl now.1)), (ny, .inl (cI, 10, .inl now.2.1))] H := hP
        have hD : va_D A [(h0, .inr (2, [.ref hn, .ref hi0, .ref hi1, .int kp, .ref hR, .ref hT])), (hn, .inr (1, [.ref nx, .ref ny, .int now.2.2.1, .int (now.2.2.2.1 ||| (1 <<< (p0 &&& 31))), .int now.2.2.2.2])), (nx, .inl (cI, 10, .inl now.1)), (ny, .inl (cI, 10, .inl now.2.1))] := hD
        refine lv_goto (tgt := 62) hx hb dX2_take_42 (by decide) ?_
        refine lv_aload_n hx hb dX2_take_62 rfl (lv_at hl 0 rfl) ?_
        refine va_get (D := D) (ci := 2) (v := .ref hn) (C := RX2) (T := TX2) (N := 6) hx hb hts iX2_take_X2 hown hK.1 hP 0 rfl rfl 0 (by decide) (hts (.fieldLink RX2 12 "CompassBias" "now" "LCompassBias$Samples;") (List.mem_of_getElem? (i := 1) rfl)) (fun _ h9 => h9) rfl dX2_take_63 ?_
        refine va_get (D := D) (ci := 1) (v := .int (now.2.2.2.1 ||| (1 <<< (p0 &&& 31)))) (C := RX1) (T := TX1) (N := 5) hx hb hts iX2_take_X1 hown hK.1 hP 1 rfl rfl 3 (by decide) (hts (.fieldLink RX2 50 "CompassBias$Samples" "taken" "I") (List.mem_of_getElem? (i := 2) rfl)) (fun _ h9 => h9) rfl dX2_take_66 ?_
        refine aft_i (wr := [(h0, .inr (2, [.ref hn, .ref hi0, .ref hi1, .int kp, .ref hR, .ref hT])), (hn, .inr (1, [.ref nx, .ref ny, .int now.2.2.1, .int (now.2.2.2.1 ||| (1 <<< (p0 &&& 31))), .int now.2.2.2.2])), (nx, .inl (cI, 10, .inl now.1)), (ny, .inl (cI, 10, .inl now.2.1))]) (run_S (As := [.int (now.2.2.2.1 ||| (1 <<< (p0 &&& 31)))]) (rest := []) C (c_J6_bitCount_0f7a4 l D cI cZ (now.2.2.2.1 ||| (1 <<< (p0 &&& 31)))) (va_cwS 1 hts gX2_take_J6_bitCount_0f7a4 rfl rfl rfl (by decide +kernel) ⟨Nat.le_of_ble_eq_true rfl, Nat.le_of_ble_eq_true rfl⟩) hK (hP.sub (ws' := []) [] rfl) (hD.sub (ws' := []) [] (by decide) rfl) rfl hl.1 rfl (Nat.le_of_ble_eq_true rfl) dX2_take_69 (Nat.zero_le _) (Nat.zero_le _)) hP hD hS hA [] [0, 1, 2, 3] rfl rfl (by decide) (by decide) (fun r u H locs hw hP hD hS => ?_)
        subst hw
        have hP : va_P D classes [(h0, .inr (2, [.ref hn, .ref hi0, .ref hi1, .int kp, .ref hR, .ref hT])), (hn, .inr (1, [.ref nx, .ref ny, .int now.2.2.1, .int (now.2.2.2.1 ||| (1 <<< (p0 &&& 31))), .int now.2.2.2.2])), (nx, .inl (cI, 10, .inl now.1)), (ny, .inl (cI, 10, .inl now.2.1))] H := hP
        have hD : va_D A [(h0, .inr (2, [.ref hn, .ref hi0, .ref hi1, .int kp, .ref hR, .ref hT])), (hn, .inr (1, [.ref nx, .ref ny, .int now.2.2.1, .int (now.2.2.2.1 ||| (1 <<< (p0 &&& 31))), .int now.2.2.2.2])), (nx, .inl (cI, 10, .inl now.1)), (ny, .inl (cI, 10, .inl now.2.1))] := hD
        exact ret_i C (now.1, now.2.1, now.2.2.1, now.2.2.2.1 ||| (1 <<< (p0 &&& 31)), now.2.2.2.2) ((if_neg c_5).trans ((if_neg c_16).trans ((if_pos c_24)))) hP hD hS dX2_take_72
    · refine lv_bipush (v := (-2)) hx hb dX2_take_19 (by decide) ?_
      exact ret_i C now ((if_neg c_5).trans ((if_pos c_16))) hP hD hS dX2_take_21
  · refine lv_iconst (v := (-1)) hx hb dX2_take_8 (by decide) ?_
    exact ret_i C now (if_pos c_5) hP hD hS dX2_take_9
def F_X2_of (now : Sm) (p0 : Int32) (p1 : Int32) : Int32 := if (F_X2_isSample now p0) = 0 then ((-1)) else (if p1 = 0 then ((now.1 p0.toNatClampNeg) + 100) else (if p1 = 1 then ((now.2.1 p0.toNatClampNeg) + 100) else (if p1 = 2 then (if (F_X2_isIn now.2.2.2.1 p0) = 0 then (0) else (1)) else (if p1 = 3 then (F_X2_powerAt (now.1 p0.toNatClampNeg) (now.2.1 p0.toNatClampNeg)) else ((-2))))))
theorem samp_in {now : Sm} {p0 : Int32} (h : ¬ F_X2_isSample now p0 = 0) : vp_in p0 10 := by
  unfold F_X2_isSample at h
  by_cases h1 : p0 < 0
  · rw [if_pos h1] at h; exact absurd rfl h
  · rw [if_neg h1] at h
    by_cases h2 : now.2.2.1 ≤ p0
    · rw [if_pos h2] at h; exact absurd rfl h
    · rw [if_neg h2] at h
      by_cases h3 : (10 : Int32) ≤ p0
      · rw [if_pos h3] at h; exact absurd rfl h
      · exact vp_of3 h1 h3
theorem iX2_of_X1 : ∀ w ∈ u_ws RX1 TX1 5, w ∈ wsX2_of := fun _ h => List.mem_cons_of_mem _ (List.mem_append_right _ (h))
theorem iX2_of_X2 : ∀ w ∈ u_ws RX2 TX2 6, w ∈ wsX2_of := fun _ h => List.mem_cons_of_mem _ (List.mem_append_left _ (List.mem_append_right _ (h)))
set_option maxHeartbeats 4000000 in
set_option maxRecDepth 100000 in
theorem c_X2_of (l : Launch) (D : va_G) (cI cZ : ClassId) (h0 hn hi0 hi1 hR hT nx ny : Nat) (now : Sm) (kp : Int32) (p0 : Int32) (p1 : Int32) : CTi l yX2_of wsX2_of ({ frames := 1, cells := 0, slots := 0, locals := 21 } : Room) D cI cZ [.ref h0, .int p0, .int p1] [(h0, .inr (2, [.ref hn, .ref hi0, .ref hi1, .int kp, .ref hR, .ref hT])), (hn, .inr (1, [.ref nx, .ref ny, .int now.2.2.1, .int now.2.2.2.1, .int now.2.2.2.2])), (nx, .inl (cI, 10, .inl now.1)), (ny, .inl (cI, 10, .inl now.2.1))] (S := Unit) (fun z9 _ => F_X2_of now p0 p1 = z9) (fun _ => [(h0, .inr (2, [.ref hn, .ref hi0, .ref hi1, .int kp, .ref hR, .ref hT])), (hn, .inr (1, [.ref nx, .ref ny, .int now.2.2.1, .int now.2.2.2.1, .int now.2.2.2.2])), (nx, .inl (cI, 10, .inl now.1)), (ny, .inl (cI, 10, .inl now.2.1))]) := by
  refine enterM (cc := cX2_of) (maxL := 3) (ret := (some .int)) (own := RX2) (Qc := fun A => va_Qi (S := Unit) (fun z9 _ => F_X2_of now p0 p1 = z9) (PoB (S := Unit) D A (fun _ => [(h0, .inr (2, [.ref hn, .ref hi0, .ref hi1, .int kp, .ref hR, .ref hT])), (hn, .inr (1, [.ref nx, .ref ny, .int now.2.2.1, .int now.2.2.2.1, .int now.2.2.2.2])), (nx, .inl (cI, 10, .inl now.1)), (ny, .inl (cI, 10, .inl now.2.1))])) A) (by decide) rfl rfl (Nat.le_of_ble_eq_true rfl) ?_
  intro p e s m below meth c A ls C hK hA hP hD hS hl
  have hx := C.1
  have hb := C.2.1
  have hown := C.2.2.2.1
  have hts := C.2.2.2.2.1
  have _huse := hts
  have hl : lv_has ls 3 [(0, .ref h0), (1, .int p0), (2, .int p1)] := hl
  refine lv_aload_n hx hb dX2_of_0 rfl (lv_at hl 0 rfl) ?_
  refine lv_iload_n hx hb dX2_of_1 rfl (lv_at hl 1 rfl) ?_
  refine aft_i (wr := []) (run_V (As := [.int p0]) (rest := []) C (c_X2_isSample l D cI cZ h0 hn hi0 hi1 hR hT nx ny now kp p0) (cwV 1 hts gX2_of_X2_isSample rfl rfl rfl (by decide +kernel) ⟨Nat.le_of_ble_eq_true rfl, Nat.le_of_ble_eq_true rfl⟩) hK (hP.sub (ws' := [(h0, .inr (2, [.ref hn, .ref hi0, .ref hi1, .int kp, .ref hR, .ref hT])), (hn, .inr (1, [.ref nx, .ref ny, .int now.2.2.1, .int now.2.2.2.1, .int now.2.2.2.2])), (nx, .inl (cI, 10, .inl now.1)), (ny, .inl (cI, 10, .inl now.2.1))]) [0, 1, 2, 3] rfl) (hD.sub (ws' := [(h0, .inr (2, [.ref hn, .ref hi0, .ref hi1, .int kp, .ref hR, .ref hT])), (hn, .inr (1, [.ref nx, .ref ny, .int now.2.2.1, .int now.2.2.2.1, .int now.2.2.2.2])), (nx, .inl (cI, 10, .inl now.1)), (ny, .inl (cI, 10, .inl now.2.1))]) [0, 1, 2, 3] (by decide) rfl) 0 2 rfl rfl rfl rfl hl.1 rfl (Nat.le_of_ble_eq_true rfl) dX2_of_2 (Nat.zero_le _) (Nat.zero_le _)) hP hD hS hA [0, 1, 2, 3] [] rfl rfl (by decide) (by decide) (fun r u H locs hw hP hD hS => ?_)
  subst hw
  have hP : va_P D classes [(h0, .inr (2, [.ref hn, .ref hi0, .ref hi1, .int kp, .ref hR, .ref hT])), (hn, .inr (1, [.ref nx, .ref ny, .int now.2.2.1, .int now.2.2.2.1, .int now.2.2.2.2])), (nx, .inl (cI, 10, .inl now.1)), (ny, .inl (cI, 10, .inl now.2.1))] H := hP
  have hD : va_D A [(h0, .inr (2, [.ref hn, .ref hi0, .ref hi1, .int kp, .ref hR, .ref hT])), (hn, .inr (1, [.ref nx, .ref ny, .int now.2.2.1, .int now.2.2.2.1, .int now.2.2.2.2])), (nx, .inl (cI, 10, .inl now.1)), (ny, .inl (cI, 10, .inl now.2.1))] := hD
  refine lv_if_ne (tgt := 10) hx hb dX2_of_5 (by decide) (fun c_5 => ?_) (fun c_5 => ?_)
  · refine lv_iload_n hx hb dX2_of_10 rfl (lv_at hl 2 rfl) ?_
    by_cases c_11_0 : p1 = 0
    · refine lv_tableIn (off := 29) (tgt := 40) hx hb dX2_of_11 (by rw [c_11_0]; decide) (by rw [c_11_0]; decide) (by rw [c_11_0]; rfl) (by decide) ?_
      refine lv_aload_n hx hb dX2_of_40 rfl (lv_at hl 0 rfl) ?_
      refine va_get (D := D) (ci := 2) (v := .ref hn) (C := RX2) (T := TX2) (N := 6) hx hb hts iX2_of_X2 hown hK.1 hP 0 rfl rfl 0 (by decide) (hts (.fieldLink RX2 12 "CompassBias" "now" "LCompassBias$Samples;") (List.mem_of_getElem? (i := 1) rfl)) (fun _ h9 => h9) rfl dX2_of_41 ?_
      refine va_get (D := D) (ci := 1) (v := .ref nx) (C := RX1) (T := TX1) (N := 5) hx hb hts iX2_of_X1 hown hK.1 hP 1 rfl rfl 0 (by decide) (hts (.fieldLink RX2 43 "CompassBias$Samples" "xs" "[I") (List.mem_of_getElem? (i := 2) rfl)) (fun _ h9 => h9) rfl dX2_of_44 ?_
      refine lv_iload_n hx hb dX2_of_47 rfl (lv_at hl 1 rfl) ?_
      refine va_iald hx hb hK.1 hP 2 0 rfl rfl (samp_in c_5) dX2_of_48 ?_
      refine lv_bipush (v := 100) hx hb dX2_of_49 (by decide) ?_
      refine lv_iadd hx hb dX2_of_51 ?_
      exact ret_i C () ((if_neg c_5).trans ((if_pos c_11_0))) hP hD hS dX2_of_52
    · by_cases c_11_1 : p1 = 1
      · refine lv_tableIn (off := 42) (tgt := 53) hx hb dX2_of_11 (by rw [c_11_1]; decide) (by rw [c_11_1]; decide) (by rw [c_11_1]; rfl) (by decide) ?_
        refine lv_aload_n hx hb dX2_of_53 rfl (lv_at hl 0 rfl) ?_
        refine va_get (D := D) (ci := 2) (v := .ref hn) (C := RX2) (T := TX2) (N := 6) hx hb hts iX2_of_X2 hown hK.1 hP 0 rfl rfl 0 (by decide) (hts (.fieldLink RX2 12 "CompassBias" "now" "LCompassBias$Samples;") (List.mem_of_getElem? (i := 1) rfl)) (fun _ h9 => h9) rfl dX2_of_54 ?_
        refine va_get (D := D) (ci := 1) (v := .ref ny) (C := RX1) (T := TX1) (N := 5) hx hb hts iX2_of_X1 hown hK.1 hP 1 rfl rfl 1 (by decide) (hts (.fieldLink RX2 47 "CompassBias$Samples" "ys" "[I") (List.mem_of_getElem? (i := 3) rfl)) (fun _ h9 => h9) rfl dX2_of_57 ?_
        refine lv_iload_n hx hb dX2_of_60 rfl (lv_at hl 1 rfl) ?_
        refine va_iald hx hb hK.1 hP 3 0 rfl rfl (samp_in c_5) dX2_of_61 ?_
        refine lv_bipush (v := 100) hx hb dX2_of_62 (by decide) ?_
        refine lv_iadd hx hb dX2_of_64 ?_
        exact ret_i C () ((if_neg c_5).trans ((if_neg c_11_0).trans ((if_pos c_11_1)))) hP hD hS dX2_of_65
      · by_cases c_11_2 : p1 = 2
        · refine lv_tableIn (off := 55) (tgt := 66) hx hb dX2_of_11 (by rw [c_11_2]; decide) (by rw [c_11_2]; decide) (by rw [c_11_2]; rfl) (by decide) ?_
          refine lv_aload_n hx hb dX2_of_66 rfl (lv_at hl 0 rfl) ?_
          refine va_get (D := D) (ci := 2) (v := .ref hn) (C := RX2) (T := TX2) (N := 6) hx hb hts iX2_of_X2 hown hK.1 hP 0 rfl rfl 0 (by decide) (hts (.fieldLink RX2 12 "CompassBias" "now" "LCompassBias$Samples;") (List.mem_of_getElem? (i := 1) rfl)) (fun _ h9 => h9) rfl dX2_of_67 ?_
          refine va_get (D := D) (ci := 1) (v := .int now.2.2.2.1) (C := RX1) (T := TX1) (N := 5) hx hb hts iX2_of_X1 hown hK.1 hP 1 rfl rfl 3 (by decide) (hts (.fieldLink RX2 50 "CompassBias$Samples" "taken" "I") (List.mem_of_getElem? (i := 4) rfl)) (fun _ h9 => h9) rfl dX2_of_70 ?_
          refine lv_iload_n hx hb dX2_of_73 rfl (lv_at hl 1 rfl) ?_
          refine aft_i (wr := [(h0, .inr (2, [.ref hn, .ref hi0, .ref hi1, .int kp, .ref hR, .ref hT])), (hn, .inr (1, [.ref nx, .ref ny, .int now.2.2.1, .int now.2.2.2.1, .int now.2.2.2.2])), (nx, .inl (cI, 10, .inl now.1)), (ny, .inl (cI, 10, .inl now.2.1))]) (run_S (As := [.int now.2.2.2.1, .int p0]) (rest := []) C (c_X2_isIn l D cI cZ now.2.2.2.1 p0) (va_cwS 2 hts gX2_of_X2_isIn rfl rfl rfl (by decide +kernel) ⟨Nat.le_of_ble_eq_true rfl, Nat.le_of_ble_eq_true rfl⟩) hK (hP.sub (ws' := []) [] rfl) (hD.sub (ws' := []) [] (by decide) rfl) rfl hl.1 rfl (Nat.le_of_ble_eq_true rfl) dX2_of_74 (Nat.zero_le _) (Nat.zero_le _)) hP hD hS hA [] [0, 1, 2, 3] rfl rfl (by decide) (by decide) (fun r u H locs hw hP hD hS => ?_)
          subst hw
          have hP : va_P D classes [(h0, .inr (2, [.ref hn, .ref hi0, .ref hi1, .int kp, .ref hR, .ref hT])), (hn, .inr (1, [.ref nx, .ref ny, .int now.2.2.1, .int now.2.2.2.1, .int now.2.2.2.2])), (nx, .inl (cI, 10, .inl now.1)), (ny, .inl (cI, 10, .inl now.2.1))] H := hP
          have hD : va_D A [(h0, .inr (2, [.ref hn, .ref hi0, .ref hi1, .int kp, .ref hR, .ref hT])), (hn, .inr (1, [.ref nx, .ref ny, .int now.2.2.1, .int now.2.2.2.1, .int now.2.2.2.2])), (nx, .inl (cI, 10, .inl now.1)), (ny, .inl (cI, 10, .inl now.2.1))] := hD
          refine lv_if_eq (tgt := 84) hx hb dX2_of_77 (by decide) (fun c_77 => ?_) (fun c_77 => ?_)
          · refine lv_iconst (v := 0) hx hb dX2_of_84 (by decide) ?_
            exact ret_i C () ((if_neg c_5).trans ((if_neg c_11_0).trans ((if_neg c_11_1).trans ((if_pos c_11_2).trans ((if_pos c_77)))))) hP hD hS dX2_of_85
          · refine lv_iconst (v := 1) hx hb dX2_of_80 (by decide) ?_
            refine lv_goto (tgt := 85) hx hb dX2_of_81 (by decide) ?_
            exact ret_i C () ((if_neg c_5).trans ((if_neg c_11_0).trans ((if_neg c_11_1).trans ((if_pos c_11_2).trans ((if_neg c_77)))))) hP hD hS dX2_of_85
        · by_cases c_11_3 : p1 = 3
          · refine lv_tableIn (off := 75) (tgt := 86) hx hb dX2_of_11 (by rw [c_11_3]; decide) (by rw [c_11_3]; decide) (by rw [c_11_3]; rfl) (by decide) ?_
            refine lv_aload_n hx hb dX2_of_86 rfl (lv_at hl 0 rfl) ?_
            refine va_get (D := D) (ci := 2) (v := .ref hn) (C := RX2) (T := TX2) (N := 6) hx hb hts iX2_of_X2 hown hK.1 hP 0 rfl rfl 0 (by decide) (hts (.fieldLink RX2 12 "CompassBias" "now" "LCompassBias$Samples;") (List.mem_of_getElem? (i := 1) rfl)) (fun _ h9 => h9) rfl dX2_of_87 ?_
            refine va_get (D := D) (ci := 1) (v := .ref nx) (C := RX1) (T := TX1) (N := 5) hx hb hts iX2_of_X1 hown hK.1 hP 1 rfl rfl 0 (by decide) (hts (.fieldLink RX2 43 "CompassBias$Samples" "xs" "[I") (List.mem_of_getElem? (i := 2) rfl)) (fun _ h9 => h9) rfl dX2_of_90 ?_
            refine lv_iload_n hx hb dX2_of_93 rfl (lv_at hl 1 rfl) ?_
            refine va_iald hx hb hK.1 hP 2 0 rfl rfl (samp_in c_5) dX2_of_94 ?_
            refine lv_aload_n hx hb dX2_of_95 rfl (lv_at hl 0 rfl) ?_
            refine va_get (D := D) (ci := 2) (v := .ref hn) (C := RX2) (T := TX2) (N := 6) hx hb hts iX2_of_X2 hown hK.1 hP 0 rfl rfl 0 (by decide) (hts (.fieldLink RX2 12 "CompassBias" "now" "LCompassBias$Samples;") (List.mem_of_getElem? (i := 1) rfl)) (fun _ h9 => h9) rfl dX2_of_96 ?_
            refine va_get (D := D) (ci := 1) (v := .ref ny) (C := RX1) (T := TX1) (N := 5) hx hb hts iX2_of_X1 hown hK.1 hP 1 rfl rfl 1 (by decide) (hts (.fieldLink RX2 47 "CompassBias$Samples" "ys" "[I") (List.mem_of_getElem? (i := 3) rfl)) (fun _ h9 => h9) rfl dX2_of_99 ?_
            refine lv_iload_n hx hb dX2_of_102 rfl (lv_at hl 1 rfl) ?_
            refine va_iald hx hb hK.1 hP 3 0 rfl rfl (samp_in c_5) dX2_of_103 ?_
            refine aft_i (wr := [(h0, .inr (2, [.ref hn, .ref hi0, .ref hi1, .int kp, .ref hR, .ref hT])), (hn, .inr (1, [.ref nx, .ref ny, .int now.2.2.1, .int now.2.2.2.1, .int now.2.2.2.2])), (nx, .inl (cI, 10, .inl now.1)), (ny, .inl (cI, 10, .inl now.2.1))]) (run_S (As := [.int (now.1 p0.toNatClampNeg), .int (now.2.1 p0.toNatClampNeg)]) (rest := []) C (c_X2_powerAt l D cI cZ (now.1 p0.toNatClampNeg) (now.2.1 p0.toNatClampNeg)) (va_cwS 2 hts gX2_of_X2_powerAt rfl rfl rfl (by decide +kernel) ⟨Nat.le_of_ble_eq_true rfl, Nat.le_of_ble_eq_true rfl⟩) hK (hP.sub (ws' := []) [] rfl) (hD.sub (ws' := []) [] (by decide) rfl) rfl hl.1 rfl (Nat.le_of_ble_eq_true rfl) dX2_of_104 (Nat.zero_le _) (Nat.zero_le _)) hP hD hS hA [] [0, 1, 2, 3] rfl rfl (by decide) (by decide) (fun r u H locs hw hP hD hS => ?_)
            subst hw
            have hP : va_P D classes [(h0, .inr (2, [.ref hn, .ref hi0, .ref hi1, .int kp, .ref hR, .ref hT])), (hn, .inr (1, [.ref nx, .ref ny, .int now.2.2.1, .int now.2.2.2.1, .int now.2.2.2.2])), (nx, .inl (cI, 10, .inl now.1)), (ny, .inl (cI, 10, .inl now.2.1))] H := hP
            have hD : va_D A [(h0, .inr (2, [.ref hn, .ref hi0, .ref hi1, .int kp, .ref hR, .ref hT])), (hn, .inr (1, [.ref nx, .ref ny, .int now.2.2.1, .int now.2.2.2.1, .int now.2.2.2.2])), (nx, .inl (cI, 10, .inl now.1)), (ny, .inl (cI, 10, .inl now.2.1))] := hD
            exact ret_i C () ((if_neg c_5).trans ((if_neg c_11_0).trans ((if_neg c_11_1).trans ((if_neg c_11_2).trans ((if_pos c_11_3)))))) hP hD hS dX2_of_107
          · refine lv_tableOut (tgt := 108) hx hb dX2_of_11 (by have h0 := lv_neT c_11_0 (a := 0) rfl; have h1 := lv_neT c_11_1 (a := 1) rfl; have h2 := lv_neT c_11_2 (a := 2) rfl; have h3 := lv_neT c_11_3 (a := 3) rfl; omega) (by decide) ?_
            refine lv_bipush (v := (-2)) hx hb dX2_of_108 (by decide) ?_
            exact ret_i C () ((if_neg c_5).trans ((if_neg c_11_0).trans ((if_neg c_11_1).trans ((if_neg c_11_2).trans ((if_neg c_11_3)))))) hP hD hS dX2_of_110
  · refine lv_iconst (v := (-1)) hx hb dX2_of_8 (by decide) ?_
    exact ret_i C () (if_pos c_5) hP hD hS dX2_of_9
def F_X2_need (now : Sm) (p0 : Int32) : Int32 × Sm := if (F_X2_isBetween p0 1 8) = 0 then (((-2), now)) else ((now.2.2.2.2, (now.1, now.2.1, now.2.2.1, now.2.2.2.1, p0)))
theorem iX2_need_X1 : ∀ w ∈ u_ws RX1 TX1 5, w ∈ wsX2_need := fun _ h => List.mem_cons_of_mem _ (List.mem_append_right _ (h))
theorem iX2_need_X2 : ∀ w ∈ u_ws RX2 TX2 6, w ∈ wsX2_need := fun _ h => List.mem_cons_of_mem _ (List.mem_append_left _ (List.mem_append_right _ (h)))
set_option maxHeartbeats 4000000 in
set_option maxRecDepth 100000 in
theorem c_X2_need (l : Launch) (D : va_G) (cI cZ : ClassId) (h0 hn hi0 hi1 hR hT nx ny : Nat) (now : Sm) (kp : Int32) (p0 : Int32) : CTi l yX2_need wsX2_need ({ frames := 1, cells := 0, slots := 0, locals := 22 } : Room) D cI cZ [.ref h0, .int p0] [(h0, .inr (2, [.ref hn, .ref hi0, .ref hi1, .int kp, .ref hR, .ref hT])), (hn, .inr (1, [.ref nx, .ref ny, .int now.2.2.1, .int now.2.2.2.1, .int now.2.2.2.2])), (nx, .inl (cI, 10, .inl now.1)), (ny, .inl (cI, 10, .inl now.2.1))] (S := Sm) (fun z9 u9 => F_X2_need now p0 = (z9, u9)) (fun u => [(h0, .inr (2, [.ref hn, .ref hi0, .ref hi1, .int kp, .ref hR, .ref hT])), (hn, .inr (1, [.ref nx, .ref ny, .int u.2.2.1, .int u.2.2.2.1, .int u.2.2.2.2])), (nx, .inl (cI, 10, .inl u.1)), (ny, .inl (cI, 10, .inl u.2.1))]) := by
  refine enterM (cc := cX2_need) (maxL := 3) (ret := (some .int)) (own := RX2) (Qc := fun A => va_Qi (S := Sm) (fun z9 u9 => F_X2_need now p0 = (z9, u9)) (PoB (S := Sm) D A (fun u => [(h0, .inr (2, [.ref hn, .ref hi0, .ref hi1, .int kp, .ref hR, .ref hT])), (hn, .inr (1, [.ref nx, .ref ny, .int u.2.2.1, .int u.2.2.2.1, .int u.2.2.2.2])), (nx, .inl (cI, 10, .inl u.1)), (ny, .inl (cI, 10, .inl u.2.1))])) A) (by decide) rfl rfl (Nat.le_of_ble_eq_true rfl) ?_
  intro p e s m below meth c A ls C hK hA hP hD hS hl
  have hx := C.1
  have hb := C.2.1
  have hown := C.2.2.2.1
  have hts := C.2.2.2.2.1
  have _huse := hts
  have hl : lv_has ls 3 [(0, .ref h0), (1, .int p0)] := hl
  refine lv_iload_n hx hb dX2_need_0 rfl (lv_at hl 1 rfl) ?_
  refine lv_iconst (v := 1) hx hb dX2_need_1 (by decide) ?_
  refine lv_bipush (v := 8) hx hb dX2_need_2 (by decide) ?_
  refine aft_i (wr := [(h0, .inr (2, [.ref hn, .ref hi0, .ref hi1, .int kp, .ref hR, .ref hT])), (hn, .inr (1, [.ref nx, .ref ny, .int now.2.2.1, .int now.2.2.2.1, .int now.2.2.2.2])), (nx, .inl (cI, 10, .inl now.1)), (ny, .inl (cI, 10, .inl now.2.1))]) (run_S (As := [.int p0, .int 1, .int 8]) (rest := []) C (c_X2_isBetween l D cI cZ p0 1 8) (va_cwS 3 hts gX2_need_X2_isBetween rfl rfl rfl (by decide +kernel) ⟨Nat.le_of_ble_eq_true rfl, Nat.le_of_ble_eq_true rfl⟩) hK (hP.sub (ws' := []) [] rfl) (hD.sub (ws' := []) [] (by decide) rfl) rfl hl.1 rfl (Nat.le_of_ble_eq_true rfl) dX2_need_4 (Nat.zero_le _) (Nat.zero_le _)) hP hD hS hA [] [0, 1, 2, 3] rfl rfl (by decide) (by decide) (fun r u H locs hw hP hD hS => ?_)
  subst hw
  have hP : va_P D classes [(h0, .inr (2, [.ref hn, .ref hi0, .ref hi1, .int kp, .ref hR, .ref hT])), (hn, .inr (1, [.ref nx, .ref ny, .int now.2.2.1, .int now.2.2.2.1, .int now.2.2.2.2])), (nx, .inl (cI, 10, .inl now.1)), (ny, .inl (cI, 10, .inl now.2.1))] H := hP
  have hD : va_D A [(h0, .inr (2, [.ref hn, .ref hi0, .ref hi1, .int kp, .ref hR, .ref hT])), (hn, .inr (1, [.ref nx, .ref ny, .int now.2.2.1, .int now.2.2.2.1, .int now.2.2.2.2])), (nx, .inl (cI, 10, .inl now.1)), (ny, .inl (cI, 10, .inl now.2.1))] := hD
  refine lv_if_ne (tgt := 13) hx hb dX2_need_7 (by decide) (fun c_7 => ?_) (fun c_7 => ?_)
  · refine lv_aload_n hx hb dX2_need_13 rfl (lv_at hl 0 rfl) ?_
    refine va_get (D := D) (ci := 2) (v := .ref hn) (C := RX2) (T := TX2) (N := 6) hx hb hts iX2_need_X2 hown hK.1 hP 0 rfl rfl 0 (by decide) (hts (.fieldLink RX2 12 "CompassBias" "now" "LCompassBias$Samples;") (List.mem_of_getElem? (i := 1) rfl)) (fun _ h9 => h9) rfl dX2_need_14 ?_
    refine va_get (D := D) (ci := 1) (v := .int now.2.2.2.2) (C := RX1) (T := TX1) (N := 5) hx hb hts iX2_need_X1 hown hK.1 hP 1 rfl rfl 4 (by decide) (hts (.fieldLink RX2 122 "CompassBias$Samples" "needed" "I") (List.mem_of_getElem? (i := 2) rfl)) (fun _ h9 => h9) rfl dX2_need_17 ?_
    refine lv_istore_n (lv' := [(2, .int now.2.2.2.2), (0, .ref h0), (1, .int p0)]) hx hb dX2_need_20 rfl hl (by decide) rfl (fun ls hl => ?_)
    refine lv_aload_n hx hb dX2_need_21 rfl (lv_at hl 1 rfl) ?_
    refine va_get (D := D) (ci := 2) (v := .ref hn) (C := RX2) (T := TX2) (N := 6) hx hb hts iX2_need_X2 hown hK.1 hP 0 rfl rfl 0 (by decide) (hts (.fieldLink RX2 12 "CompassBias" "now" "LCompassBias$Samples;") (List.mem_of_getElem? (i := 1) rfl)) (fun _ h9 => h9) rfl dX2_need_22 ?_
    refine lv_iload_n hx hb dX2_need_25 rfl (lv_at hl 2 rfl) ?_
    refine va_put (D := D) (ci := 1) (v := .int p0) (ty := .int) (C := RX1) (T := TX1) (N := 5) hx hb hts iX2_need_X1 tyX1 tyX1_ok nmX1 hown hK.1 hP hD hS 1 rfl rfl 4 (by decide) (hts (.fieldLink RX2 122 "CompassBias$Samples" "needed" "I") (List.mem_of_getElem? (i := 2) rfl)) (fun _ h9 => h9) rfl (by decide +kernel) rfl rfl (Nat.le_of_ble_eq_true rfl) dX2_need_26 (fun H locs hP hD hS => ?_)
    have hP : va_P D classes [(h0, .inr (2, [.ref hn, .ref hi0, .ref hi1, .int kp, .ref hR, .ref hT])), (hn, .inr (1, [.ref nx, .ref ny, .int now.2.2.1, .int now.2.2.2.1, .int p0])), (nx, .inl (cI, 10, .inl now.1)), (ny, .inl (cI, 10, .inl now.2.1))] H := hP
    have hD : va_D A [(h0, .inr (2, [.ref hn, .ref hi0, .ref hi1, .int kp, .ref hR, .ref hT])), (hn, .inr (1, [.ref nx, .ref ny, .int now.2.2.1, .int now.2.2.2.1, .int p0])), (nx, .inl (cI, 10, .inl now.1)), (ny, .inl (cI, 10, .inl now.2.1))] := hD
    refine lv_iload_n hx hb dX2_need_29 rfl (lv_at hl 0 rfl) ?_
    exact ret_i C (now.1, now.2.1, now.2.2.1, now.2.2.2.1, p0) (if_neg c_7) hP hD hS dX2_need_30
  · refine lv_bipush (v := (-2)) hx hb dX2_need_10 (by decide) ?_
    exact ret_i C now (if_pos c_7) hP hD hS dX2_need_12
def L_X2_greatestDivisor_9  : Nat → Int64 → Int64 → Int32 → Int64
  | 0, _, _, _ => 0
  | n + 1, a, b, i => if 100 ≤ i then (a) else (if (lg_cmp b 0) = 0 then (a) else (L_X2_greatestDivisor_9 n b (a - a / b * b) (i + 1)))
def F_X2_greatestDivisor (p0 : Int64) (p1 : Int64) : Int64 := L_X2_greatestDivisor_9 101 p0 p1 0
set_option maxHeartbeats 4000000 in
set_option maxRecDepth 100000 in
theorem c_X2_greatestDivisor (l : Launch) (D : va_G) (cI cZ : ClassId) (p0 : Int64) (p1 : Int64) : CTl l yX2_greatestDivisor wsX2_greatestDivisor ({ frames := 0, cells := 0, slots := 0, locals := 0 } : Room) D cI cZ [.long p0, .long p1] [] (S := Unit) (fun z9 _ => F_X2_greatestDivisor p0 p1 = z9) (fun _ => []) := by
  refine enterM (cc := cX2_greatestDivisor) (maxL := 11) (ret := (some .long)) (own := RX2) (Qc := fun A => va_Ql (S := Unit) (fun z9 _ => F_X2_greatestDivisor p0 p1 = z9) (PoB (S := Unit) D A (fun _ => [])) A) (by decide) rfl rfl (Nat.le_of_ble_eq_true rfl) ?_
  intro p e s m below meth c A ls C hK hA hP hD hS hl
  have hx := C.1
  have hb := C.2.1
  have hown := C.2.2.2.1
  have hts := C.2.2.2.2.1
  have _huse := hts
  have K9 : ∀ (n : Nat) (k : Nat) (a : Int64) (b : Int64) (i : Int32) (_ : i.toInt = (k : Int)) (_ : k ≤ 100) (_ : 100 < k + n) (X : Int64) (_ : X = L_X2_greatestDivisor_9 n a b i) (H : Heap) (locs : List Loc) (_ : va_P D classes [] H) (_ : va_D A []) (_ : va_S A s.heap H locs) (ls : Array Slot) (_ : lv_has ls 11 [(0, .long p0), (2, .long p1), (4, .long a), (6, .long b), (8, .int i)]), W p l e ({ frames := 0, cells := 0, slots := 0, locals := 0 } : Room) s m [.long p0, .long p1].toArray below meth c H locs 0 0 (MQ below (va_Ql (S := Unit) (fun z9 _ => X = z9) (PoB (S := Unit) D A (fun _ => [])) A) [.long p0, .long p1].toArray s 0 0 A) (F0 m 9 ls []) := by
    intro n
    induction n with
    | zero =>
      intro k a b i hi hk hfu X hX H locs hP hD hS ls hl
      exact absurd hfu (by omega)
    | succ n ih =>
      intro k a b i hi hk hfu X hX H locs hP hD hS ls hl
      refine lv_iload hx hb dX2_greatestDivisor_9 (lv_at hl 4 rfl) ?_
      refine lv_bipush (v := 100) hx hb dX2_greatestDivisor_11 (by decide) ?_
      refine lv_icmp_ge (tgt := 44) hx hb dX2_greatestDivisor_13 (by decide) (fun c_13 => ?_) (fun c_13 => ?_)
      · refine lv_lload hx hb dX2_greatestDivisor_44 (lv_at hl 2 rfl) ?_
        exact ret_l C () (hX.trans ((if_pos c_13))) hP hD hS dX2_greatestDivisor_46
      · refine lv_lload hx hb dX2_greatestDivisor_16 (lv_at hl 3 rfl) ?_
        refine lv_lconst (v := 0) hx hb dX2_greatestDivisor_18 (by decide) ?_
        refine W.lcmp hx hb dX2_greatestDivisor_19 ?_
        refine lv_if_eq (tgt := 44) hx hb dX2_greatestDivisor_20 (by decide) (fun c_20 => ?_) (fun c_20 => ?_)
        · refine lv_lload hx hb dX2_greatestDivisor_44 (lv_at hl 2 rfl) ?_
          exact ret_l C () (hX.trans ((if_neg c_13).trans ((if_pos c_20)))) hP hD hS dX2_greatestDivisor_46
        · refine lv_lload hx hb dX2_greatestDivisor_23 (lv_at hl 2 rfl) ?_
          refine lv_lload hx hb dX2_greatestDivisor_25 (lv_at hl 3 rfl) ?_
          refine lv_lrem hx hb dX2_greatestDivisor_27 (lcz c_20) ?_
          refine lv_lstore (lv' := [(9, .long (a - a / b * b)), (0, .long p0), (2, .long p1), (4, .long a), (6, .long b), (8, .int i)]) hx hb dX2_greatestDivisor_28 hl (by decide) rfl (fun ls hl => ?_)
          refine lv_lload hx hb dX2_greatestDivisor_30 (lv_at hl 4 rfl) ?_
          refine lv_lstore (lv' := [(4, .long b), (9, .long (a - a / b * b)), (0, .long p0), (2, .long p1), (6, .long b), (8, .int i)]) hx hb dX2_greatestDivisor_32 hl (by decide) rfl (fun ls hl => ?_)
          refine lv_lload hx hb dX2_greatestDivisor_34 (lv_at hl 1 rfl) ?_
          refine lv_lstore (lv' := [(6, .long (a - a / b * b)), (4, .long b), (9, .long (a - a / b * b)), (0, .long p0), (2, .long p1), (8, .int i)]) hx hb dX2_greatestDivisor_36 hl (by decide) rfl (fun ls hl => ?_)
          refine lv_iinc (v := i + 1) (lv' := [(8, .int (i + 1)), (6, .long (a - a / b * b)), (4, .long b), (9, .long (a - a / b * b)), (0, .long p0), (2, .long p1)]) hx hb dX2_greatestDivisor_38 hl (k := 5) rfl rfl (by decide) rfl (fun ls hl => ?_)
          refine lv_goto (tgt := 9) hx hb dX2_greatestDivisor_41 (by decide) ?_
          exact ih (k + 1) b (a - a / b * b) (i + 1) (i_succ hi (by omega)) (i_lt100 hi c_13) (by omega) X (hX.trans ((if_neg c_13).trans ((if_neg c_20)))) _ _ hP hD hS _ (lv_sub hl [4, 5, 2, 1, 0] rfl)
  have hl : lv_has ls 11 [(0, .long p0), (2, .long p1)] := hl
  refine lv_lload_n hx hb dX2_greatestDivisor_0 rfl (lv_at hl 0 rfl) ?_
  refine lv_lstore (lv' := [(4, .long p0), (0, .long p0), (2, .long p1)]) hx hb dX2_greatestDivisor_1 hl (by decide) rfl (fun ls hl => ?_)
  refine lv_lload_n hx hb dX2_greatestDivisor_3 rfl (lv_at hl 2 rfl) ?_
  refine lv_lstore (lv' := [(6, .long p1), (4, .long p0), (0, .long p0), (2, .long p1)]) hx hb dX2_greatestDivisor_4 hl (by decide) rfl (fun ls hl => ?_)
  refine lv_iconst (v := 0) hx hb dX2_greatestDivisor_6 (by decide) ?_
  refine lv_istore (lv' := [(8, .int 0), (6, .long p1), (4, .long p0), (0, .long p0), (2, .long p1)]) hx hb dX2_greatestDivisor_7 hl (by decide) rfl (fun ls hl => ?_)
  exact K9 101 0 p0 p1 0 rfl (by omega) (by omega) (F_X2_greatestDivisor p0 p1) rfl _ _ hP hD hS _ (lv_sub hl [3, 4, 2, 1, 0] rfl)
def F_X2_partOfLowest (p0 : Int64) (p1 : Int64) (p2 : Int32) : Int64 := if 0 < (lg_cmp (F_X2_greatestDivisor (if 0 < p0 then p0 else -p0) p1) 0) then (if p2 = 0 then (p0 / (F_X2_greatestDivisor (if 0 < p0 then p0 else -p0) p1)) else (p1 / (F_X2_greatestDivisor (if 0 < p0 then p0 else -p0) p1))) else (p2.toInt64)
set_option maxHeartbeats 4000000 in
set_option maxRecDepth 100000 in
theorem c_X2_partOfLowest (l : Launch) (D : va_G) (cI cZ : ClassId) (p0 : Int64) (p1 : Int64) (p2 : Int32) : CTl l yX2_partOfLowest wsX2_partOfLowest ({ frames := 1, cells := 0, slots := 0, locals := 30 } : Room) D cI cZ [.long p0, .long p1, .int p2] [] (S := Unit) (fun z9 _ => F_X2_partOfLowest p0 p1 p2 = z9) (fun _ => []) := by
  refine enterM (cc := cX2_partOfLowest) (maxL := 7) (ret := (some .long)) (own := RX2) (Qc := fun A => va_Ql (S := Unit) (fun z9 _ => F_X2_partOfLowest p0 p1 p2 = z9) (PoB (S := Unit) D A (fun _ => [])) A) (by decide) rfl rfl (Nat.le_of_ble_eq_true rfl) ?_
  intro p e s m below meth c A ls C hK hA hP hD hS hl
  have hx := C.1
  have hb := C.2.1
  have hown := C.2.2.2.1
  have hts := C.2.2.2.2.1
  have _huse := hts
  have hl : lv_has ls 7 [(0, .long p0), (2, .long p1), (4, .int p2)] := hl
  refine lv_lload_n hx hb dX2_partOfLowest_0 rfl (lv_at hl 0 rfl) ?_
  refine va_mabs_long hx hb (by rw [C.2.2.1]; exact hl.1.symm) hown (hts (.methodLink RX2 153 Lib.MathLoose.abs_long.x) (List.mem_of_getElem? (i := 1) rfl)) (hts (.static Lib.MathLoose.abs_long.x) (List.mem_of_getElem? (i := 2) rfl)) (hts (.initialized "java/lang/Math") (List.mem_of_getElem? (i := 3) rfl)) (hts (.code Lib.MathLoose.abs_long.x Lib.MathLoose.abs_long.code 2 (some .long)) (List.mem_of_getElem? (i := 4) rfl)) (Nat.le_of_ble_eq_true rfl) (Nat.le_of_ble_eq_true rfl) (Nat.zero_le _) (Nat.zero_le _) dX2_partOfLowest_1 ?_
  refine lv_lload_n hx hb dX2_partOfLowest_4 rfl (lv_at hl 1 rfl) ?_
  refine aft_l (wr := []) (run_S (As := [.long (if 0 < p0 then p0 else -p0), .long p1]) (rest := []) C (c_X2_greatestDivisor l D cI cZ (if 0 < p0 then p0 else -p0) p1) (va_cwS 2 hts gX2_partOfLowest_X2_greatestDivisor rfl rfl rfl (by decide +kernel) ⟨Nat.le_of_ble_eq_true rfl, Nat.le_of_ble_eq_true rfl⟩) hK (hP.sub (ws' := []) [] rfl) (hD.sub (ws' := []) [] (by decide) rfl) rfl hl.1 rfl (Nat.le_of_ble_eq_true rfl) dX2_partOfLowest_5 (Nat.zero_le _) (Nat.zero_le _)) hP hD hS hA [] [] rfl rfl (by decide) (by decide) (fun r u H locs hw hP hD hS => ?_)
  subst hw
  have hP : va_P D classes [] H := hP
  have hD : va_D A [] := hD
  refine lv_lstore (lv' := [(5, .long (F_X2_greatestDivisor (if 0 < p0 then p0 else -p0) p1)), (0, .long p0), (2, .long p1), (4, .int p2)]) hx hb dX2_partOfLowest_8 hl (by decide) rfl (fun ls hl => ?_)
  refine lv_lload hx hb dX2_partOfLowest_10 (lv_at hl 0 rfl) ?_
  refine lv_lconst (v := 0) hx hb dX2_partOfLowest_12 (by decide) ?_
  refine W.lcmp hx hb dX2_partOfLowest_13 ?_
  refine lv_if_gt (tgt := 21) hx hb dX2_partOfLowest_14 (by decide) (fun c_14 => ?_) (fun c_14 => ?_)
  · refine lv_iload hx hb dX2_partOfLowest_21 (lv_at hl 3 rfl) ?_
    refine lv_if_ne (tgt := 30) hx hb dX2_partOfLowest_23 (by decide) (fun c_23 => ?_) (fun c_23 => ?_)
    · refine lv_lload_n hx hb dX2_partOfLowest_30 rfl (lv_at hl 2 rfl) ?_
      refine lv_lload hx hb dX2_partOfLowest_31 (lv_at hl 0 rfl) ?_
      refine lv_ldiv hx hb dX2_partOfLowest_33 (lgz c_14) ?_
      exact ret_l C () ((if_pos c_14).trans ((if_neg c_23))) hP hD hS dX2_partOfLowest_34
    · refine lv_lload_n hx hb dX2_partOfLowest_26 rfl (lv_at hl 1 rfl) ?_
      refine lv_goto (tgt := 31) hx hb dX2_partOfLowest_27 (by decide) ?_
      refine lv_lload hx hb dX2_partOfLowest_31 (lv_at hl 0 rfl) ?_
      refine lv_ldiv hx hb dX2_partOfLowest_33 (lgz c_14) ?_
      exact ret_l C () ((if_pos c_14).trans ((if_pos c_23))) hP hD hS dX2_partOfLowest_34
  · refine lv_iload hx hb dX2_partOfLowest_17 (lv_at hl 3 rfl) ?_
    refine lv_i2l (v := p2.toInt64) hx hb dX2_partOfLowest_19 rfl ?_
    exact ret_l C () (if_neg c_14) hP hD hS dX2_partOfLowest_20
def L_X2_sumUp_6 (now : Sm) (p0 : Int32) : Nat → Int32 → Rd → Rd
  | 0, _, _ => (0, 0, 0, 0, 0, 0, 0, 0, 0, 0, 0, 0, 0)
  | n + 1, i, q => if 10 ≤ i then (q) else (if (F_X2_isIn p0 i) = 0 then (L_X2_sumUp_6 now p0 n (i + 1) q) else (L_X2_sumUp_6 now p0 n (i + 1) (F_X0_include q (now.1 i.toNatClampNeg) (now.2.1 i.toNatClampNeg))))
def F_X2_sumUp (now : Sm) (r : Rd) (p0 : Int32) : Rd := L_X2_sumUp_6 now p0 11 0 (F_X0_empty r)
theorem iX2_sumUp_X1 : ∀ w ∈ u_ws RX1 TX1 5, w ∈ wsX2_sumUp := fun _ h => List.mem_cons_of_mem _ (List.mem_append_left _ (List.mem_append_right _ (h)))
theorem iX2_sumUp_X2 : ∀ w ∈ u_ws RX2 TX2 6, w ∈ wsX2_sumUp := fun _ h => List.mem_cons_of_mem _ (List.mem_append_left _ (List.mem_append_left _ (List.mem_append_right _ (h))))
set_option maxHeartbeats 4000000 in
set_option maxRecDepth 100000 in
theorem c_X2_sumUp (l : Launch) (D : va_G) (cI cZ : ClassId) (h0 hr hn hi0 hi1 hR hT nx ny : Nat) (now : Sm) (kp : Int32) (r : Rd) (p0 : Int32) : CTv l yX2_sumUp wsX2_sumUp ({ frames := 2, cells := 0, slots := 0, locals := 44 } : Room) D cI cZ [.ref h0, .ref hr, .int p0] [(h0, .inr (2, [.ref hn, .ref hi0, .ref hi1, .int kp, .ref hR, .ref hT])), (hn, .inr (1, [.ref nx, .ref ny, .int now.2.2.1, .int now.2.2.2.1, .int now.2.2.2.2])), (nx, .inl (cI, 10, .inl now.1)), (ny, .inl (cI, 10, .inl now.2.1)), (hr, .inr (0, rdv r))] (S := Rd) (fun u9 => F_X2_sumUp now r p0 = u9) (fun u => [(h0, .inr (2, [.ref hn, .ref hi0, .ref hi1, .int kp, .ref hR, .ref hT])), (hn, .inr (1, [.ref nx, .ref ny, .int now.2.2.1, .int now.2.2.2.1, .int now.2.2.2.2])), (nx, .inl (cI, 10, .inl now.1)), (ny, .inl (cI, 10, .inl now.2.1)), (hr, .inr (0, rdv u))]) := by
  refine enterM (cc := cX2_sumUp) (maxL := 4) (ret := none) (own := RX2) (Qc := fun A => va_Qv (S := Rd) (fun u9 => F_X2_sumUp now r p0 = u9) (PoB (S := Rd) D A (fun u => [(h0, .inr (2, [.ref hn, .ref hi0, .ref hi1, .int kp, .ref hR, .ref hT])), (hn, .inr (1, [.ref nx, .ref ny, .int now.2.2.1, .int now.2.2.2.1, .int now.2.2.2.2])), (nx, .inl (cI, 10, .inl now.1)), (ny, .inl (cI, 10, .inl now.2.1)), (hr, .inr (0, rdv u))])) A) (by decide) rfl rfl (Nat.le_of_ble_eq_true rfl) ?_
  intro p e s m below meth c A ls C hK hA hP hD hS hl
  have hx := C.1
  have hb := C.2.1
  have hown := C.2.2.2.1
  have hts := C.2.2.2.2.1
  have _huse := hts
  have K6 : ∀ (n : Nat) (k : Nat) (i : Int32) (q : Rd) (_ : i.toInt = (k : Int)) (_ : k ≤ 10) (_ : 10 < k + n) (X : Rd) (_ : X = L_X2_sumUp_6 now p0 n i q) (H : Heap) (locs : List Loc) (_ : va_P D classes [(h0, .inr (2, [.ref hn, .ref hi0, .ref hi1, .int kp, .ref hR, .ref hT])), (hn, .inr (1, [.ref nx, .ref ny, .int now.2.2.1, .int now.2.2.2.1, .int now.2.2.2.2])), (nx, .inl (cI, 10, .inl now.1)), (ny, .inl (cI, 10, .inl now.2.1)), (hr, .inr (0, rdv q))] H) (_ : va_D A [(h0, .inr (2, [.ref hn, .ref hi0, .ref hi1, .int kp, .ref hR, .ref hT])), (hn, .inr (1, [.ref nx, .ref ny, .int now.2.2.1, .int now.2.2.2.1, .int now.2.2.2.2])), (nx, .inl (cI, 10, .inl now.1)), (ny, .inl (cI, 10, .inl now.2.1)), (hr, .inr (0, rdv q))]) (_ : va_S A s.heap H locs) (ls : Array Slot) (_ : lv_has ls 4 [(0, .ref h0), (1, .ref hr), (2, .int p0), (3, .int i)]), W p l e ({ frames := 2, cells := 0, slots := 0, locals := 44 } : Room) s m [.ref h0, .ref hr, .int p0].toArray below meth c H locs 0 0 (MQ below (va_Qv (S := Rd) (fun u9 => X = u9) (PoB (S := Rd) D A (fun u => [(h0, .inr (2, [.ref hn, .ref hi0, .ref hi1, .int kp, .ref hR, .ref hT])), (hn, .inr (1, [.ref nx, .ref ny, .int now.2.2.1, .int now.2.2.2.1, .int now.2.2.2.2])), (nx, .inl (cI, 10, .inl now.1)), (ny, .inl (cI, 10, .inl now.2.1)), (hr, .inr (0, rdv u))])) A) [.ref h0, .ref hr, .int p0].toArray s 0 0 A) (F0 m 6 ls []) := by
    intro n
    induction n with
    | zero =>
      intro k i q hi hk hfu X hX H locs hP hD hS ls hl
      exact absurd hfu (by omega)
    | succ n ih =>
      intro k i q hi hk hfu X hX H locs hP hD hS ls hl
      refine lv_iload_n hx hb dX2_sumUp_6 rfl (lv_at hl 3 rfl) ?_
      refine lv_bipush (v := 10) hx hb dX2_sumUp_7 (by decide) ?_
      refine lv_icmp_ge (tgt := 48) hx hb dX2_sumUp_9 (by decide) (fun c_9 => ?_) (fun c_9 => ?_)
      · exact ret_v C q (hX.trans ((if_pos c_9))) hP hD hS dX2_sumUp_48
      · refine lv_iload_n hx hb dX2_sumUp_12 rfl (lv_at hl 2 rfl) ?_
        refine lv_iload_n hx hb dX2_sumUp_13 rfl (lv_at hl 3 rfl) ?_
        refine aft_i (wr := [(h0, .inr (2, [.ref hn, .ref hi0, .ref hi1, .int kp, .ref hR, .ref hT])), (hn, .inr (1, [.ref nx, .ref ny, .int now.2.2.1, .int now.2.2.2.1, .int now.2.2.2.2])), (nx, .inl (cI, 10, .inl now.1)), (ny, .inl (cI, 10, .inl now.2.1)), (hr, .inr (0, rdv q))]) (run_S (As := [.int p0, .int i]) (rest := []) C (c_X2_isIn l D cI cZ p0 i) (va_cwS 2 hts gX2_sumUp_X2_isIn rfl rfl rfl (by decide +kernel) ⟨Nat.le_of_ble_eq_true rfl, Nat.le_of_ble_eq_true rfl⟩) hK (hP.sub (ws' := []) [] rfl) (hD.sub (ws' := []) [] (by decide) rfl) rfl hl.1 rfl (Nat.le_of_ble_eq_true rfl) dX2_sumUp_14 (Nat.zero_le _) (Nat.zero_le _)) hP hD hS hA [] [0, 1, 2, 3, 4] rfl rfl (by decide) (by decide) (fun r u H locs hw hP hD hS => ?_)
        subst hw
        have hP : va_P D classes [(h0, .inr (2, [.ref hn, .ref hi0, .ref hi1, .int kp, .ref hR, .ref hT])), (hn, .inr (1, [.ref nx, .ref ny, .int now.2.2.1, .int now.2.2.2.1, .int now.2.2.2.2])), (nx, .inl (cI, 10, .inl now.1)), (ny, .inl (cI, 10, .inl now.2.1)), (hr, .inr (0, rdv q))] H := hP
        have hD : va_D A [(h0, .inr (2, [.ref hn, .ref hi0, .ref hi1, .int kp, .ref hR, .ref hT])), (hn, .inr (1, [.ref nx, .ref ny, .int now.2.2.1, .int now.2.2.2.1, .int now.2.2.2.2])), (nx, .inl (cI, 10, .inl now.1)), (ny, .inl (cI, 10, .inl now.2.1)), (hr, .inr (0, rdv q))] := hD
        refine lv_if_eq (tgt := 42) hx hb dX2_sumUp_17 (by decide) (fun c_17 => ?_) (fun c_17 => ?_)
        · refine lv_iinc (v := i + 1) (lv' := [(3, .int (i + 1)), (0, .ref h0), (1, .ref hr), (2, .int p0)]) hx hb dX2_sumUp_42 hl (k := 3) rfl rfl (by decide) rfl (fun ls hl => ?_)
          refine lv_goto (tgt := 6) hx hb dX2_sumUp_45 (by decide) ?_
          exact ih (k + 1) (i + 1) q (i_succ hi (by omega)) (i_lt10 hi c_9) (by omega) X (hX.trans ((if_neg c_9).trans ((if_pos c_17)))) _ _ hP hD hS _ (lv_sub hl [1, 2, 3, 0] rfl)
        · refine lv_aload_n hx hb dX2_sumUp_20 rfl (lv_at hl 1 rfl) ?_
          refine lv_aload_n hx hb dX2_sumUp_21 rfl (lv_at hl 0 rfl) ?_
          refine va_get (D := D) (ci := 2) (v := .ref hn) (C := RX2) (T := TX2) (N := 6) hx hb hts iX2_sumUp_X2 hown hK.1 hP 0 rfl rfl 0 (by decide) (hts (.fieldLink RX2 12 "CompassBias" "now" "LCompassBias$Samples;") (List.mem_of_getElem? (i := 1) rfl)) (fun _ h9 => h9) rfl dX2_sumUp_22 ?_
          refine va_get (D := D) (ci := 1) (v := .ref nx) (C := RX1) (T := TX1) (N := 5) hx hb hts iX2_sumUp_X1 hown hK.1 hP 1 rfl rfl 0 (by decide) (hts (.fieldLink RX2 43 "CompassBias$Samples" "xs" "[I") (List.mem_of_getElem? (i := 2) rfl)) (fun _ h9 => h9) rfl dX2_sumUp_25 ?_
          refine lv_iload_n hx hb dX2_sumUp_28 rfl (lv_at hl 3 rfl) ?_
          refine va_iald hx hb hK.1 hP 2 0 rfl rfl (vp_of hi (i_lt10 hi c_9)) dX2_sumUp_29 ?_
          refine lv_aload_n hx hb dX2_sumUp_30 rfl (lv_at hl 0 rfl) ?_
          refine va_get (D := D) (ci := 2) (v := .ref hn) (C := RX2) (T := TX2) (N := 6) hx hb hts iX2_sumUp_X2 hown hK.1 hP 0 rfl rfl 0 (by decide) (hts (.fieldLink RX2 12 "CompassBias" "now" "LCompassBias$Samples;") (List.mem_of_getElem? (i := 1) rfl)) (fun _ h9 => h9) rfl dX2_sumUp_31 ?_
          refine va_get (D := D) (ci := 1) (v := .ref ny) (C := RX1) (T := TX1) (N := 5) hx hb hts iX2_sumUp_X1 hown hK.1 hP 1 rfl rfl 1 (by decide) (hts (.fieldLink RX2 47 "CompassBias$Samples" "ys" "[I") (List.mem_of_getElem? (i := 3) rfl)) (fun _ h9 => h9) rfl dX2_sumUp_34 ?_
          refine lv_iload_n hx hb dX2_sumUp_37 rfl (lv_at hl 3 rfl) ?_
          refine va_iald hx hb hK.1 hP 3 0 rfl rfl (vp_of hi (i_lt10 hi c_9)) dX2_sumUp_38 ?_
          refine aft_v (wr := [(h0, .inr (2, [.ref hn, .ref hi0, .ref hi1, .int kp, .ref hR, .ref hT])), (hn, .inr (1, [.ref nx, .ref ny, .int now.2.2.1, .int now.2.2.2.1, .int now.2.2.2.2])), (nx, .inl (cI, 10, .inl now.1)), (ny, .inl (cI, 10, .inl now.2.1))]) (run_V (As := [.int (now.1 i.toNatClampNeg), .int (now.2.1 i.toNatClampNeg)]) (rest := []) C (c_X0_include l D cI cZ hr q (now.1 i.toNatClampNeg) (now.2.1 i.toNatClampNeg)) (cwV 2 hts gX2_sumUp_X0_include rfl rfl rfl (by decide +kernel) ⟨Nat.le_of_ble_eq_true rfl, Nat.le_of_ble_eq_true rfl⟩) hK (hP.sub (ws' := [(hr, .inr (0, rdv q))]) [4] rfl) (hD.sub (ws' := [(hr, .inr (0, rdv q))]) [4] (by decide) rfl) 0 0 rfl rfl rfl rfl hl.1 rfl (Nat.le_of_ble_eq_true rfl) dX2_sumUp_39 (Nat.zero_le _) (Nat.zero_le _)) hP hD hS hA [4] [0, 1, 2, 3] rfl rfl (by decide) (by decide) (fun u H locs hw hP hD hS => ?_)
          subst hw
          have hP : va_P D classes [(h0, .inr (2, [.ref hn, .ref hi0, .ref hi1, .int kp, .ref hR, .ref hT])), (hn, .inr (1, [.ref nx, .ref ny, .int now.2.2.1, .int now.2.2.2.1, .int now.2.2.2.2])), (nx, .inl (cI, 10, .inl now.1)), (ny, .inl (cI, 10, .inl now.2.1)), (hr, .inr (0, rdv (F_X0_include q (now.1 i.toNatClampNeg) (now.2.1 i.toNatClampNeg))))] H := hP
          have hD : va_D A [(h0, .inr (2, [.ref hn, .ref hi0, .ref hi1, .int kp, .ref hR, .ref hT])), (hn, .inr (1, [.ref nx, .ref ny, .int now.2.2.1, .int now.2.2.2.1, .int now.2.2.2.2])), (nx, .inl (cI, 10, .inl now.1)), (ny, .inl (cI, 10, .inl now.2.1)), (hr, .inr (0, rdv (F_X0_include q (now.1 i.toNatClampNeg) (now.2.1 i.toNatClampNeg))))] := hD
          refine lv_iinc (v := i + 1) (lv' := [(3, .int (i + 1)), (0, .ref h0), (1, .ref hr), (2, .int p0)]) hx hb dX2_sumUp_42 hl (k := 3) rfl rfl (by decide) rfl (fun ls hl => ?_)
          refine lv_goto (tgt := 6) hx hb dX2_sumUp_45 (by decide) ?_
          exact ih (k + 1) (i + 1) (F_X0_include q (now.1 i.toNatClampNeg) (now.2.1 i.toNatClampNeg)) (i_succ hi (by omega)) (i_lt10 hi c_9) (by omega) X (hX.trans ((if_neg c_9).trans ((if_neg c_17)))) _ _ hP hD hS _ (lv_sub hl [1, 2, 3, 0] rfl)
  have hl : lv_has ls 4 [(0, .ref h0), (1, .ref hr), (2, .int p0)] := hl
  refine lv_aload_n hx hb dX2_sumUp_0 rfl (lv_at hl 1 rfl) ?_
  refine aft_v (wr := [(h0, .inr (2, [.ref hn, .ref hi0, .ref hi1, .int kp, .ref hR, .ref hT])), (hn, .inr (1, [.ref nx, .ref ny, .int now.2.2.1, .int now.2.2.2.1, .int now.2.2.2.2])), (nx, .inl (cI, 10, .inl now.1)), (ny, .inl (cI, 10, .inl now.2.1))]) (run_V (As := []) (rest := []) C (c_X0_empty l D cI cZ hr r) (cwV 0 hts gX2_sumUp_X0_empty rfl rfl rfl (by decide +kernel) ⟨Nat.le_of_ble_eq_true rfl, Nat.le_of_ble_eq_true rfl⟩) hK (hP.sub (ws' := [(hr, .inr (0, rdv r))]) [4] rfl) (hD.sub (ws' := [(hr, .inr (0, rdv r))]) [4] (by decide) rfl) 0 0 rfl rfl rfl rfl hl.1 rfl (Nat.le_of_ble_eq_true rfl) dX2_sumUp_1 (Nat.zero_le _) (Nat.zero_le _)) hP hD hS hA [4] [0, 1, 2, 3] rfl rfl (by decide) (by decide) (fun u H locs hw hP hD hS => ?_)
  subst hw
  have hP : va_P D classes [(h0, .inr (2, [.ref hn, .ref hi0, .ref hi1, .int kp, .ref hR, .ref hT])), (hn, .inr (1, [.ref nx, .ref ny, .int now.2.2.1, .int now.2.2.2.1, .int now.2.2.2.2])), (nx, .inl (cI, 10, .inl now.1)), (ny, .inl (cI, 10, .inl now.2.1)), (hr, .inr (0, rdv (F_X0_empty r)))] H := hP
  have hD : va_D A [(h0, .inr (2, [.ref hn, .ref hi0, .ref hi1, .int kp, .ref hR, .ref hT])), (hn, .inr (1, [.ref nx, .ref ny, .int now.2.2.1, .int now.2.2.2.1, .int now.2.2.2.2])), (nx, .inl (cI, 10, .inl now.1)), (ny, .inl (cI, 10, .inl now.2.1)), (hr, .inr (0, rdv (F_X0_empty r)))] := hD
  refine lv_iconst (v := 0) hx hb dX2_sumUp_4 (by decide) ?_
  refine lv_istore_n (lv' := [(3, .int 0), (0, .ref h0), (1, .ref hr), (2, .int p0)]) hx hb dX2_sumUp_5 rfl hl (by decide) rfl (fun ls hl => ?_)
  exact K6 11 0 0 (F_X0_empty r) rfl (by omega) (by omega) (F_X2_sumUp now r p0) rfl _ _ hP hD hS _ (lv_sub hl [1, 2, 3, 0] rfl)
def F_X2_layTheRound (now : Sm) (r : Rd) : Rd := F_X0_lay (F_X2_sumUp now r now.2.2.2.1)
theorem iX2_layTheRound_X1 : ∀ w ∈ u_ws RX1 TX1 5, w ∈ wsX2_layTheRound := fun _ h => List.mem_cons_of_mem _ (List.mem_append_left _ (List.mem_append_right _ (h)))
theorem iX2_layTheRound_X2 : ∀ w ∈ u_ws RX2 TX2 6, w ∈ wsX2_layTheRound := fun _ h => List.mem_cons_of_mem _ (List.mem_append_left _ (List.mem_append_left _ (List.mem_append_right _ (h))))
set_option maxHeartbeats 4000000 in
set_option maxRecDepth 100000 in
theorem c_X2_layTheRound (l : Launch) (D : va_G) (cI cZ : ClassId) (h0 hn hi0 hi1 hR hT nx ny : Nat) (now : Sm) (kp : Int32) (r : Rd) : CTv l yX2_layTheRound wsX2_layTheRound ({ frames := 3, cells := 0, slots := 0, locals := 67 } : Room) D cI cZ [.ref h0] [(h0, .inr (2, [.ref hn, .ref hi0, .ref hi1, .int kp, .ref hR, .ref hT])), (hn, .inr (1, [.ref nx, .ref ny, .int now.2.2.1, .int now.2.2.2.1, .int now.2.2.2.2])), (nx, .inl (cI, 10, .inl now.1)), (ny, .inl (cI, 10, .inl now.2.1)), (hR, .inr (0, rdv r))] (S := Rd) (fun u9 => F_X2_layTheRound now r = u9) (fun u => [(h0, .inr (2, [.ref hn, .ref hi0, .ref hi1, .int kp, .ref hR, .ref hT])), (hn, .inr (1, [.ref nx, .ref ny, .int now.2.2.1, .int now.2.2.2.1, .int now.2.2.2.2])), (nx, .inl (cI, 10, .inl now.1)), (ny, .inl (cI, 10, .inl now.2.1)), (hR, .inr (0, rdv u))]) := by
  refine enterM (cc := cX2_layTheRound) (maxL := 1) (ret := none) (own := RX2) (Qc := fun A => va_Qv (S := Rd) (fun u9 => F_X2_layTheRound now r = u9) (PoB (S := Rd) D A (fun u => [(h0, .inr (2, [.ref hn, .ref hi0, .ref hi1, .int kp, .ref hR, .ref hT])), (hn, .inr (1, [.ref nx, .ref ny, .int now.2.2.1, .int now.2.2.2.1, .int now.2.2.2.2])), (nx, .inl (cI, 10, .inl now.1)), (ny, .inl (cI, 10, .inl now.2.1)), (hR, .inr (0, rdv u))])) A) (by decide) rfl rfl (Nat.le_of_ble_eq_true rfl) ?_
  intro p e s m below meth c A ls C hK hA hP hD hS hl
  have hx := C.1
  have hb := C.2.1
  have hown := C.2.2.2.1
  have hts := C.2.2.2.2.1
  have _huse := hts
  have hl : lv_has ls 1 [(0, .ref h0)] := hl
  refine lv_aload_n hx hb dX2_layTheRound_0 rfl (lv_at hl 0 rfl) ?_
  refine lv_aload_n hx hb dX2_layTheRound_1 rfl (lv_at hl 0 rfl) ?_
  refine va_get (D := D) (ci := 2) (v := .ref hR) (C := RX2) (T := TX2) (N := 6) hx hb hts iX2_layTheRound_X2 hown hK.1 hP 0 rfl rfl 4 (by decide) (hts (.fieldLink RX2 29 "CompassBias" "theRound" "LCompassBias$Round;") (List.mem_of_getElem? (i := 1) rfl)) (fun _ h9 => h9) rfl dX2_layTheRound_2 ?_
  refine lv_aload_n hx hb dX2_layTheRound_5 rfl (lv_at hl 0 rfl) ?_
  refine va_get (D := D) (ci := 2) (v := .ref hn) (C := RX2) (T := TX2) (N := 6) hx hb hts iX2_layTheRound_X2 hown hK.1 hP 0 rfl rfl 0 (by decide) (hts (.fieldLink RX2 12 "CompassBias" "now" "LCompassBias$Samples;") (List.mem_of_getElem? (i := 2) rfl)) (fun _ h9 => h9) rfl dX2_layTheRound_6 ?_
  refine va_get (D := D) (ci := 1) (v := .int now.2.2.2.1) (C := RX1) (T := TX1) (N := 5) hx hb hts iX2_layTheRound_X1 hown hK.1 hP 1 rfl rfl 3 (by decide) (hts (.fieldLink RX2 50 "CompassBias$Samples" "taken" "I") (List.mem_of_getElem? (i := 3) rfl)) (fun _ h9 => h9) rfl dX2_layTheRound_9 ?_
  refine aft_v (wr := []) (run_V (As := [.ref hR, .int now.2.2.2.1]) (rest := []) C (c_X2_sumUp l D cI cZ h0 hR hn hi0 hi1 hR hT nx ny now kp r now.2.2.2.1) (cwV 2 hts gX2_layTheRound_X2_sumUp rfl rfl rfl (by decide +kernel) ⟨Nat.le_of_ble_eq_true rfl, Nat.le_of_ble_eq_true rfl⟩) hK (hP.sub (ws' := [(h0, .inr (2, [.ref hn, .ref hi0, .ref hi1, .int kp, .ref hR, .ref hT])), (hn, .inr (1, [.ref nx, .ref ny, .int now.2.2.1, .int now.2.2.2.1, .int now.2.2.2.2])), (nx, .inl (cI, 10, .inl now.1)), (ny, .inl (cI, 10, .inl now.2.1)), (hR, .inr (0, rdv r))]) [0, 1, 2, 3, 4] rfl) (hD.sub (ws' := [(h0, .inr (2, [.ref hn, .ref hi0, .ref hi1, .int kp, .ref hR, .ref hT])), (hn, .inr (1, [.ref nx, .ref ny, .int now.2.2.1, .int now.2.2.2.1, .int now.2.2.2.2])), (nx, .inl (cI, 10, .inl now.1)), (ny, .inl (cI, 10, .inl now.2.1)), (hR, .inr (0, rdv r))]) [0, 1, 2, 3, 4] (by decide) rfl) 0 2 rfl rfl rfl rfl hl.1 rfl (Nat.le_of_ble_eq_true rfl) dX2_layTheRound_12 (Nat.zero_le _) (Nat.zero_le _)) hP hD hS hA [0, 1, 2, 3, 4] [] rfl rfl (by decide) (by decide) (fun u H locs hw hP hD hS => ?_)
  subst hw
  have hP : va_P D classes [(h0, .inr (2, [.ref hn, .ref hi0, .ref hi1, .int kp, .ref hR, .ref hT])), (hn, .inr (1, [.ref nx, .ref ny, .int now.2.2.1, .int now.2.2.2.1, .int now.2.2.2.2])), (nx, .inl (cI, 10, .inl now.1)), (ny, .inl (cI, 10, .inl now.2.1)), (hR, .inr (0, rdv (F_X2_sumUp now r now.2.2.2.1)))] H := hP
  have hD : va_D A [(h0, .inr (2, [.ref hn, .ref hi0, .ref hi1, .int kp, .ref hR, .ref hT])), (hn, .inr (1, [.ref nx, .ref ny, .int now.2.2.1, .int now.2.2.2.1, .int now.2.2.2.2])), (nx, .inl (cI, 10, .inl now.1)), (ny, .inl (cI, 10, .inl now.2.1)), (hR, .inr (0, rdv (F_X2_sumUp now r now.2.2.2.1)))] := hD
  refine lv_aload_n hx hb dX2_layTheRound_15 rfl (lv_at hl 0 rfl) ?_
  refine va_get (D := D) (ci := 2) (v := .ref hR) (C := RX2) (T := TX2) (N := 6) hx hb hts iX2_layTheRound_X2 hown hK.1 hP 0 rfl rfl 4 (by decide) (hts (.fieldLink RX2 29 "CompassBias" "theRound" "LCompassBias$Round;") (List.mem_of_getElem? (i := 1) rfl)) (fun _ h9 => h9) rfl dX2_layTheRound_16 ?_
  refine aft_v (wr := [(h0, .inr (2, [.ref hn, .ref hi0, .ref hi1, .int kp, .ref hR, .ref hT])), (hn, .inr (1, [.ref nx, .ref ny, .int now.2.2.1, .int now.2.2.2.1, .int now.2.2.2.2])), (nx, .inl (cI, 10, .inl now.1)), (ny, .inl (cI, 10, .inl now.2.1))]) (run_V (As := []) (rest := []) C (c_X0_lay l D cI cZ hR (F_X2_sumUp now r now.2.2.2.1)) (cwV 0 hts gX2_layTheRound_X0_lay rfl rfl rfl (by decide +kernel) ⟨Nat.le_of_ble_eq_true rfl, Nat.le_of_ble_eq_true rfl⟩) hK (hP.sub (ws' := [(hR, .inr (0, rdv (F_X2_sumUp now r now.2.2.2.1)))]) [4] rfl) (hD.sub (ws' := [(hR, .inr (0, rdv (F_X2_sumUp now r now.2.2.2.1)))]) [4] (by decide) rfl) 0 0 rfl rfl rfl rfl hl.1 rfl (Nat.le_of_ble_eq_true rfl) dX2_layTheRound_19 (Nat.zero_le _) (Nat.zero_le _)) hP hD hS hA [4] [0, 1, 2, 3] rfl rfl (by decide) (by decide) (fun u H locs hw hP hD hS => ?_)
  subst hw
  have hP : va_P D classes [(h0, .inr (2, [.ref hn, .ref hi0, .ref hi1, .int kp, .ref hR, .ref hT])), (hn, .inr (1, [.ref nx, .ref ny, .int now.2.2.1, .int now.2.2.2.1, .int now.2.2.2.2])), (nx, .inl (cI, 10, .inl now.1)), (ny, .inl (cI, 10, .inl now.2.1)), (hR, .inr (0, rdv (F_X0_lay (F_X2_sumUp now r now.2.2.2.1))))] H := hP
  have hD : va_D A [(h0, .inr (2, [.ref hn, .ref hi0, .ref hi1, .int kp, .ref hR, .ref hT])), (hn, .inr (1, [.ref nx, .ref ny, .int now.2.2.1, .int now.2.2.2.1, .int now.2.2.2.2])), (nx, .inl (cI, 10, .inl now.1)), (ny, .inl (cI, 10, .inl now.2.1)), (hR, .inr (0, rdv (F_X0_lay (F_X2_sumUp now r now.2.2.2.1))))] := hD
  exact ret_v C (F_X0_lay (F_X2_sumUp now r now.2.2.2.1)) rfl hP hD hS dX2_layTheRound_22
def F_X2_sizeUpper (now : Sm) (r : Rd) (p0 : Int32) : Int64 := if (F_X2_isSample now p0) = 0 then (0) else (if 0 < (F_X0_offUpperAt r (now.1 p0.toNatClampNeg) (now.2.1 p0.toNatClampNeg)) then (F_X0_offUpperAt r (now.1 p0.toNatClampNeg) (now.2.1 p0.toNatClampNeg)) else -(F_X0_offUpperAt r (now.1 p0.toNatClampNeg) (now.2.1 p0.toNatClampNeg)))
theorem iX2_sizeUpper_X1 : ∀ w ∈ u_ws RX1 TX1 5, w ∈ wsX2_sizeUpper := fun _ h => List.mem_cons_of_mem _ (List.mem_append_left _ (List.mem_append_right _ (h)))
theorem iX2_sizeUpper_X2 : ∀ w ∈ u_ws RX2 TX2 6, w ∈ wsX2_sizeUpper := fun _ h => List.mem_cons_of_mem _ (List.mem_append_left _ (List.mem_append_left _ (List.mem_append_right _ (h))))
set_option maxHeartbeats 4000000 in
set_option maxRecDepth 100000 in
theorem c_X2_sizeUpper (l : Launch) (D : va_G) (cI cZ : ClassId) (h0 hr hn hi0 hi1 hR hT nx ny : Nat) (now : Sm) (kp : Int32) (r : Rd) (p0 : Int32) : CTl l yX2_sizeUpper wsX2_sizeUpper ({ frames := 2, cells := 0, slots := 0, locals := 43 } : Room) D cI cZ [.ref h0, .ref hr, .int p0] [(h0, .inr (2, [.ref hn, .ref hi0, .ref hi1, .int kp, .ref hR, .ref hT])), (hn, .inr (1, [.ref nx, .ref ny, .int now.2.2.1, .int now.2.2.2.1, .int now.2.2.2.2])), (nx, .inl (cI, 10, .inl now.1)), (ny, .inl (cI, 10, .inl now.2.1)), (hr, .inr (0, rdv r))] (S := Unit) (fun z9 _ => F_X2_sizeUpper now r p0 = z9) (fun _ => [(h0, .inr (2, [.ref hn, .ref hi0, .ref hi1, .int kp, .ref hR, .ref hT])), (hn, .inr (1, [.ref nx, .ref ny, .int now.2.2.1, .int now.2.2.2.1, .int now.2.2.2.2])), (nx, .inl (cI, 10, .inl now.1)), (ny, .inl (cI, 10, .inl now.2.1)), (hr, .inr (0, rdv r))]) := by
  refine enterM (cc := cX2_sizeUpper) (maxL := 3) (ret := (some .long)) (own := RX2) (Qc := fun A => va_Ql (S := Unit) (fun z9 _ => F_X2_sizeUpper now r p0 = z9) (PoB (S := Unit) D A (fun _ => [(h0, .inr (2, [.ref hn, .ref hi0, .ref hi1, .int kp, .ref hR, .ref hT])), (hn, .inr (1, [.ref nx, .ref ny, .int now.2.2.1, .int now.2.2.2.1, .int now.2.2.2.2])), (nx, .inl (cI, 10, .inl now.1)), (ny, .inl (cI, 10, .inl now.2.1)), (hr, .inr (0, rdv r))])) A) (by decide) rfl rfl (Nat.le_of_ble_eq_true rfl) ?_
  intro p e s m below meth c A ls C hK hA hP hD hS hl
  have hx := C.1
  have hb := C.2.1
  have hown := C.2.2.2.1
  have hts := C.2.2.2.2.1
  have _huse := hts
  have hl : lv_has ls 3 [(0, .ref h0), (1, .ref hr), (2, .int p0)] := hl
  refine lv_aload_n hx hb dX2_sizeUpper_0 rfl (lv_at hl 0 rfl) ?_
  refine lv_iload_n hx hb dX2_sizeUpper_1 rfl (lv_at hl 2 rfl) ?_
  refine aft_i (wr := [(hr, .inr (0, rdv r))]) (run_V (As := [.int p0]) (rest := []) C (c_X2_isSample l D cI cZ h0 hn hi0 hi1 hR hT nx ny now kp p0) (cwV 1 hts gX2_sizeUpper_X2_isSample rfl rfl rfl (by decide +kernel) ⟨Nat.le_of_ble_eq_true rfl, Nat.le_of_ble_eq_true rfl⟩) hK (hP.sub (ws' := [(h0, .inr (2, [.ref hn, .ref hi0, .ref hi1, .int kp, .ref hR, .ref hT])), (hn, .inr (1, [.ref nx, .ref ny, .int now.2.2.1, .int now.2.2.2.1, .int now.2.2.2.2])), (nx, .inl (cI, 10, .inl now.1)), (ny, .inl (cI, 10, .inl now.2.1))]) [0, 1, 2, 3] rfl) (hD.sub (ws' := [(h0, .inr (2, [.ref hn, .ref hi0, .ref hi1, .int kp, .ref hR, .ref hT])), (hn, .inr (1, [.ref nx, .ref ny, .int now.2.2.1, .int now.2.2.2.1, .int now.2.2.2.2])), (nx, .inl (cI, 10, .inl now.1)), (ny, .inl (cI, 10, .inl now.2.1))]) [0, 1, 2, 3] (by decide) rfl) 0 2 rfl rfl rfl rfl hl.1 rfl (Nat.le_of_ble_eq_true rfl) dX2_sizeUpper_2 (Nat.zero_le _) (Nat.zero_le _)) hP hD hS hA [0, 1, 2, 3] [4] rfl rfl (by decide) (by decide) (fun r u H locs hw hP hD hS => ?_)
  subst hw
  have hP : va_P D classes [(hr, .inr (0, rdv r)), (h0, .inr (2, [.ref hn, .ref hi0, .ref hi1, .int kp, .ref hR, .ref hT])), (hn, .inr (1, [.ref nx, .ref ny, .int now.2.2.1, .int now.2.2.2.1, .int now.2.2.2.2])), (nx, .inl (cI, 10, .inl now.1)), (ny, .inl (cI, 10, .inl now.2.1))] H := hP
  have hD : va_D A [(hr, .inr (0, rdv r)), (h0, .inr (2, [.ref hn, .ref hi0, .ref hi1, .int kp, .ref hR, .ref hT])), (hn, .inr (1, [.ref nx, .ref ny, .int now.2.2.1, .int now.2.2.2.1, .int now.2.2.2.2])), (nx, .inl (cI, 10, .inl now.1)), (ny, .inl (cI, 10, .inl now.2.1))] := hD
  refine lv_if_ne (tgt := 10) hx hb dX2_sizeUpper_5 (by decide) (fun c_5 => ?_) (fun c_5 => ?_)
  · refine lv_aload_n hx hb dX2_sizeUpper_10 rfl (lv_at hl 1 rfl) ?_
    refine lv_aload_n hx hb dX2_sizeUpper_11 rfl (lv_at hl 0 rfl) ?_
    refine va_get (D := D) (ci := 2) (v := .ref hn) (C := RX2) (T := TX2) (N := 6) hx hb hts iX2_sizeUpper_X2 hown hK.1 hP 1 rfl rfl 0 (by decide) (hts (.fieldLink RX2 12 "CompassBias" "now" "LCompassBias$Samples;") (List.mem_of_getElem? (i := 1) rfl)) (fun _ h9 => h9) rfl dX2_sizeUpper_12 ?_
    refine va_get (D := D) (ci := 1) (v := .ref nx) (C := RX1) (T := TX1) (N := 5) hx hb hts iX2_sizeUpper_X1 hown hK.1 hP 2 rfl rfl 0 (by decide) (hts (.fieldLink RX2 43 "CompassBias$Samples" "xs" "[I") (List.mem_of_getElem? (i := 2) rfl)) (fun _ h9 => h9) rfl dX2_sizeUpper_15 ?_
    refine lv_iload_n hx hb dX2_sizeUpper_18 rfl (lv_at hl 2 rfl) ?_
    refine va_iald hx hb hK.1 hP 3 0 rfl rfl (samp_in c_5) dX2_sizeUpper_19 ?_
    refine lv_aload_n hx hb dX2_sizeUpper_20 rfl (lv_at hl 0 rfl) ?_
    refine va_get (D := D) (ci := 2) (v := .ref hn) (C := RX2) (T := TX2) (N := 6) hx hb hts iX2_sizeUpper_X2 hown hK.1 hP 1 rfl rfl 0 (by decide) (hts (.fieldLink RX2 12 "CompassBias" "now" "LCompassBias$Samples;") (List.mem_of_getElem? (i := 1) rfl)) (fun _ h9 => h9) rfl dX2_sizeUpper_21 ?_
    refine va_get (D := D) (ci := 1) (v := .ref ny) (C := RX1) (T := TX1) (N := 5) hx hb hts iX2_sizeUpper_X1 hown hK.1 hP 2 rfl rfl 1 (by decide) (hts (.fieldLink RX2 47 "CompassBias$Samples" "ys" "[I") (List.mem_of_getElem? (i := 3) rfl)) (fun _ h9 => h9) rfl dX2_sizeUpper_24 ?_
    refine lv_iload_n hx hb dX2_sizeUpper_27 rfl (lv_at hl 2 rfl) ?_
    refine va_iald hx hb hK.1 hP 4 0 rfl rfl (samp_in c_5) dX2_sizeUpper_28 ?_
    refine aft_l (wr := [(h0, .inr (2, [.ref hn, .ref hi0, .ref hi1, .int kp, .ref hR, .ref hT])), (hn, .inr (1, [.ref nx, .ref ny, .int now.2.2.1, .int now.2.2.2.1, .int now.2.2.2.2])), (nx, .inl (cI, 10, .inl now.1)), (ny, .inl (cI, 10, .inl now.2.1))]) (run_V (As := [.int (now.1 p0.toNatClampNeg), .int (now.2.1 p0.toNatClampNeg)]) (rest := []) C (c_X0_offUpperAt l D cI cZ hr r (now.1 p0.toNatClampNeg) (now.2.1 p0.toNatClampNeg)) (cwV 2 hts gX2_sizeUpper_X0_offUpperAt rfl rfl rfl (by decide +kernel) ⟨Nat.le_of_ble_eq_true rfl, Nat.le_of_ble_eq_true rfl⟩) hK (hP.sub (ws' := [(hr, .inr (0, rdv r))]) [0] rfl) (hD.sub (ws' := [(hr, .inr (0, rdv r))]) [0] (by decide) rfl) 0 0 rfl rfl rfl rfl hl.1 rfl (Nat.le_of_ble_eq_true rfl) dX2_sizeUpper_29 (Nat.zero_le _) (Nat.zero_le _)) hP hD hS hA [0] [1, 2, 3, 4] rfl rfl (by decide) (by decide) (fun r u H locs hw hP hD hS => ?_)
    subst hw
    have hP : va_P D classes [(h0, .inr (2, [.ref hn, .ref hi0, .ref hi1, .int kp, .ref hR, .ref hT])), (hn, .inr (1, [.ref nx, .ref ny, .int now.2.2.1, .int now.2.2.2.1, .int now.2.2.2.2])), (nx, .inl (cI, 10, .inl now.1)), (ny, .inl (cI, 10, .inl now.2.1)), (hr, .inr (0, rdv r))] H := hP
    have hD : va_D A [(h0, .inr (2, [.ref hn, .ref hi0, .ref hi1, .int kp, .ref hR, .ref hT])), (hn, .inr (1, [.ref nx, .ref ny, .int now.2.2.1, .int now.2.2.2.1, .int now.2.2.2.2])), (nx, .inl (cI, 10, .inl now.1)), (ny, .inl (cI, 10, .inl now.2.1)), (hr, .inr (0, rdv r))] := hD
    refine va_mabs_long hx hb (by rw [C.2.2.1]; exact hl.1.symm) hown (hts (.methodLink RX2 153 Lib.MathLoose.abs_long.x) (List.mem_of_getElem? (i := 4) rfl)) (hts (.static Lib.MathLoose.abs_long.x) (List.mem_of_getElem? (i := 5) rfl)) (hts (.initialized "java/lang/Math") (List.mem_of_getElem? (i := 6) rfl)) (hts (.code Lib.MathLoose.abs_long.x Lib.MathLoose.abs_long.code 2 (some .long)) (List.mem_of_getElem? (i := 7) rfl)) (Nat.le_of_ble_eq_true rfl) (Nat.le_of_ble_eq_true rfl) (Nat.zero_le _) (Nat.zero_le _) dX2_sizeUpper_32 ?_
    exact ret_l C () (if_neg c_5) hP hD hS dX2_sizeUpper_35
  · refine lv_lconst (v := 0) hx hb dX2_sizeUpper_8 (by decide) ?_
    exact ret_l C () (if_pos c_5) (hP.sub (ws' := [(h0, .inr (2, [.ref hn, .ref hi0, .ref hi1, .int kp, .ref hR, .ref hT])), (hn, .inr (1, [.ref nx, .ref ny, .int now.2.2.1, .int now.2.2.2.1, .int now.2.2.2.2])), (nx, .inl (cI, 10, .inl now.1)), (ny, .inl (cI, 10, .inl now.2.1)), (hr, .inr (0, rdv r))]) [1, 2, 3, 4, 0] rfl) (hD.sub (ws' := [(h0, .inr (2, [.ref hn, .ref hi0, .ref hi1, .int kp, .ref hR, .ref hT])), (hn, .inr (1, [.ref nx, .ref ny, .int now.2.2.1, .int now.2.2.2.1, .int now.2.2.2.2])), (nx, .inl (cI, 10, .inl now.1)), (ny, .inl (cI, 10, .inl now.2.1)), (hr, .inr (0, rdv r))]) [1, 2, 3, 4, 0] (by decide) rfl) hS dX2_sizeUpper_9
def L_X2_worstSample_9 (now : Sm) (r : Rd) : Nat → Int32 → Int64 → Int32 → Int32
  | 0, _, _, _ => 0
  | n + 1, w, g, i => if 10 ≤ i then (w) else (if (F_X2_isIn now.2.2.2.1 i) = 0 then (L_X2_worstSample_9 now r n w g (i + 1)) else (if (lg_cmp (F_X2_sizeUpper now r i) g) ≤ 0 then (L_X2_worstSample_9 now r n w g (i + 1)) else (L_X2_worstSample_9 now r n i (F_X2_sizeUpper now r i) (i + 1))))
def F_X2_worstSample (now : Sm) (r : Rd) : Int32 := L_X2_worstSample_9 now r 11 0 (-1) 0
theorem iX2_worstSample_X1 : ∀ w ∈ u_ws RX1 TX1 5, w ∈ wsX2_worstSample := fun _ h => List.mem_cons_of_mem _ (List.mem_append_left _ (List.mem_append_right _ (h)))
theorem iX2_worstSample_X2 : ∀ w ∈ u_ws RX2 TX2 6, w ∈ wsX2_worstSample := fun _ h => List.mem_cons_of_mem _ (List.mem_append_left _ (List.mem_append_left _ (List.mem_append_right _ (h))))
set_option maxHeartbeats 4000000 in
set_option maxRecDepth 100000 in
theorem c_X2_worstSample (l : Launch) (D : va_G) (cI cZ : ClassId) (h0 hn hi0 hi1 hR hT nx ny : Nat) (now : Sm) (kp : Int32) (r : Rd) : CTi l yX2_worstSample wsX2_worstSample ({ frames := 3, cells := 0, slots := 0, locals := 65 } : Room) D cI cZ [.ref h0] [(h0, .inr (2, [.ref hn, .ref hi0, .ref hi1, .int kp, .ref hR, .ref hT])), (hn, .inr (1, [.ref nx, .ref ny, .int now.2.2.1, .int now.2.2.2.1, .int now.2.2.2.2])), (nx, .inl (cI, 10, .inl now.1)), (ny, .inl (cI, 10, .inl now.2.1)), (hR, .inr (0, rdv r))] (S := Unit) (fun z9 _ => F_X2_worstSample now r = z9) (fun _ => [(h0, .inr (2, [.ref hn, .ref hi0, .ref hi1, .int kp, .ref hR, .ref hT])), (hn, .inr (1, [.ref nx, .ref ny, .int now.2.2.1, .int now.2.2.2.1, .int now.2.2.2.2])), (nx, .inl (cI, 10, .inl now.1)), (ny, .inl (cI, 10, .inl now.2.1)), (hR, .inr (0, rdv r))]) := by
  refine enterM (cc := cX2_worstSample) (maxL := 7) (ret := (some .int)) (own := RX2) (Qc := fun A => va_Qi (S := Unit) (fun z9 _ => F_X2_worstSample now r = z9) (PoB (S := Unit) D A (fun _ => [(h0, .inr (2, [.ref hn, .ref hi0, .ref hi1, .int kp, .ref hR, .ref hT])), (hn, .inr (1, [.ref nx, .ref ny, .int now.2.2.1, .int now.2.2.2.1, .int now.2.2.2.2])), (nx, .inl (cI, 10, .inl now.1)), (ny, .inl (cI, 10, .inl now.2.1)), (hR, .inr (0, rdv r))])) A) (by decide) rfl rfl (Nat.le_of_ble_eq_true rfl) ?_
  intro p e s m below meth c A ls C hK hA hP hD hS hl
  have hx := C.1
  have hb := C.2.1
  have hown := C.2.2.2.1
  have hts := C.2.2.2.2.1
  have _huse := hts
  have K9 : ∀ (n : Nat) (k : Nat) (w : Int32) (g : Int64) (i : Int32) (_ : i.toInt = (k : Int)) (_ : k ≤ 10) (_ : 10 < k + n) (X : Int32) (_ : X = L_X2_worstSample_9 now r n w g i) (H : Heap) (locs : List Loc) (_ : va_P D classes [(h0, .inr (2, [.ref hn, .ref hi0, .ref hi1, .int kp, .ref hR, .ref hT])), (hn, .inr (1, [.ref nx, .ref ny, .int now.2.2.1, .int now.2.2.2.1, .int now.2.2.2.2])), (nx, .inl (cI, 10, .inl now.1)), (ny, .inl (cI, 10, .inl now.2.1)), (hR, .inr (0, rdv r))] H) (_ : va_D A [(h0, .inr (2, [.ref hn, .ref hi0, .ref hi1, .int kp, .ref hR, .ref hT])), (hn, .inr (1, [.ref nx, .ref ny, .int now.2.2.1, .int now.2.2.2.1, .int now.2.2.2.2])), (nx, .inl (cI, 10, .inl now.1)), (ny, .inl (cI, 10, .inl now.2.1)), (hR, .inr (0, rdv r))]) (_ : va_S A s.heap H locs) (ls : Array Slot) (_ : lv_has ls 7 [(0, .ref h0), (1, .int w), (2, .long g), (4, .int i)]), W p l e ({ frames := 3, cells := 0, slots := 0, locals := 65 } : Room) s m [.ref h0].toArray below meth c H locs 0 0 (MQ below (va_Qi (S := Unit) (fun z9 _ => X = z9) (PoB (S := Unit) D A (fun _ => [(h0, .inr (2, [.ref hn, .ref hi0, .ref hi1, .int kp, .ref hR, .ref hT])), (hn, .inr (1, [.ref nx, .ref ny, .int now.2.2.1, .int now.2.2.2.1, .int now.2.2.2.2])), (nx, .inl (cI, 10, .inl now.1)), (ny, .inl (cI, 10, .inl now.2.1)), (hR, .inr (0, rdv r))])) A) [.ref h0].toArray s 0 0 A) (F0 m 9 ls []) := by
    intro n
    induction n with
    | zero =>
      intro k w g i hi hk hfu X hX H locs hP hD hS ls hl
      exact absurd hfu (by omega)
    | succ n ih =>
      intro k w g i hi hk hfu X hX H locs hP hD hS ls hl
      refine lv_iload hx hb dX2_worstSample_9 (lv_at hl 3 rfl) ?_
      refine lv_bipush (v := 10) hx hb dX2_worstSample_11 (by decide) ?_
      refine lv_icmp_ge (tgt := 62) hx hb dX2_worstSample_13 (by decide) (fun c_13 => ?_) (fun c_13 => ?_)
      · refine lv_iload_n hx hb dX2_worstSample_62 rfl (lv_at hl 1 rfl) ?_
        exact ret_i C () (hX.trans ((if_pos c_13))) hP hD hS dX2_worstSample_63
      · refine lv_aload_n hx hb dX2_worstSample_16 rfl (lv_at hl 0 rfl) ?_
        refine va_get (D := D) (ci := 2) (v := .ref hn) (C := RX2) (T := TX2) (N := 6) hx hb hts iX2_worstSample_X2 hown hK.1 hP 0 rfl rfl 0 (by decide) (hts (.fieldLink RX2 12 "CompassBias" "now" "LCompassBias$Samples;") (List.mem_of_getElem? (i := 2) rfl)) (fun _ h9 => h9) rfl dX2_worstSample_17 ?_
        refine va_get (D := D) (ci := 1) (v := .int now.2.2.2.1) (C := RX1) (T := TX1) (N := 5) hx hb hts iX2_worstSample_X1 hown hK.1 hP 1 rfl rfl 3 (by decide) (hts (.fieldLink RX2 50 "CompassBias$Samples" "taken" "I") (List.mem_of_getElem? (i := 3) rfl)) (fun _ h9 => h9) rfl dX2_worstSample_20 ?_
        refine lv_iload hx hb dX2_worstSample_23 (lv_at hl 3 rfl) ?_
        refine aft_i (wr := [(h0, .inr (2, [.ref hn, .ref hi0, .ref hi1, .int kp, .ref hR, .ref hT])), (hn, .inr (1, [.ref nx, .ref ny, .int now.2.2.1, .int now.2.2.2.1, .int now.2.2.2.2])), (nx, .inl (cI, 10, .inl now.1)), (ny, .inl (cI, 10, .inl now.2.1)), (hR, .inr (0, rdv r))]) (run_S (As := [.int now.2.2.2.1, .int i]) (rest := []) C (c_X2_isIn l D cI cZ now.2.2.2.1 i) (va_cwS 2 hts gX2_worstSample_X2_isIn rfl rfl rfl (by decide +kernel) ⟨Nat.le_of_ble_eq_true rfl, Nat.le_of_ble_eq_true rfl⟩) hK (hP.sub (ws' := []) [] rfl) (hD.sub (ws' := []) [] (by decide) rfl) rfl hl.1 rfl (Nat.le_of_ble_eq_true rfl) dX2_worstSample_25 (Nat.zero_le _) (Nat.zero_le _)) hP hD hS hA [] [0, 1, 2, 3, 4] rfl rfl (by decide) (by decide) (fun r u H locs hw hP hD hS => ?_)
        subst hw
        have hP : va_P D classes [(h0, .inr (2, [.ref hn, .ref hi0, .ref hi1, .int kp, .ref hR, .ref hT])), (hn, .inr (1, [.ref nx, .ref ny, .int now.2.2.1, .int now.2.2.2.1, .int now.2.2.2.2])), (nx, .inl (cI, 10, .inl now.1)), (ny, .inl (cI, 10, .inl now.2.1)), (hR, .inr (0, rdv r))] H := hP
        have hD : va_D A [(h0, .inr (2, [.ref hn, .ref hi0, .ref hi1, .int kp, .ref hR, .ref hT])), (hn, .inr (1, [.ref nx, .ref ny, .int now.2.2.1, .int now.2.2.2.1, .int now.2.2.2.2])), (nx, .inl (cI, 10, .inl now.1)), (ny, .inl (cI, 10, .inl now.2.1)), (hR, .inr (0, rdv r))] := hD
        refine lv_if_eq (tgt := 56) hx hb dX2_worstSample_28 (by decide) (fun c_28 => ?_) (fun c_28 => ?_)
        · refine lv_iinc (v := i + 1) (lv' := [(4, .int (i + 1)), (0, .ref h0), (1, .int w), (2, .long g)]) hx hb dX2_worstSample_56 hl (k := 3) rfl rfl (by decide) rfl (fun ls hl => ?_)
          refine lv_goto (tgt := 9) hx hb dX2_worstSample_59 (by decide) ?_
          exact ih (k + 1) w g (i + 1) (i_succ hi (by omega)) (i_lt10 hi c_13) (by omega) X (hX.trans ((if_neg c_13).trans ((if_pos c_28)))) _ _ hP hD hS _ (lv_sub hl [1, 2, 3, 0] rfl)
        · refine lv_aload_n hx hb dX2_worstSample_31 rfl (lv_at hl 0 rfl) ?_
          refine lv_aload_n hx hb dX2_worstSample_32 rfl (lv_at hl 0 rfl) ?_
          refine va_get (D := D) (ci := 2) (v := .ref hR) (C := RX2) (T := TX2) (N := 6) hx hb hts iX2_worstSample_X2 hown hK.1 hP 0 rfl rfl 4 (by decide) (hts (.fieldLink RX2 29 "CompassBias" "theRound" "LCompassBias$Round;") (List.mem_of_getElem? (i := 4) rfl)) (fun _ h9 => h9) rfl dX2_worstSample_33 ?_
          refine lv_iload hx hb dX2_worstSample_36 (lv_at hl 3 rfl) ?_
          refine aft_l (wr := []) (run_V (As := [.ref hR, .int i]) (rest := []) C (c_X2_sizeUpper l D cI cZ h0 hR hn hi0 hi1 hR hT nx ny now kp r i) (cwV 2 hts gX2_worstSample_X2_sizeUpper rfl rfl rfl (by decide +kernel) ⟨Nat.le_of_ble_eq_true rfl, Nat.le_of_ble_eq_true rfl⟩) hK (hP.sub (ws' := [(h0, .inr (2, [.ref hn, .ref hi0, .ref hi1, .int kp, .ref hR, .ref hT])), (hn, .inr (1, [.ref nx, .ref ny, .int now.2.2.1, .int now.2.2.2.1, .int now.2.2.2.2])), (nx, .inl (cI, 10, .inl now.1)), (ny, .inl (cI, 10, .inl now.2.1)), (hR, .inr (0, rdv r))]) [0, 1, 2, 3, 4] rfl) (hD.sub (ws' := [(h0, .inr (2, [.ref hn, .ref hi0, .ref hi1, .int kp, .ref hR, .ref hT])), (hn, .inr (1, [.ref nx, .ref ny, .int now.2.2.1, .int now.2.2.2.1, .int now.2.2.2.2])), (nx, .inl (cI, 10, .inl now.1)), (ny, .inl (cI, 10, .inl now.2.1)), (hR, .inr (0, rdv r))]) [0, 1, 2, 3, 4] (by decide) rfl) 0 2 rfl rfl rfl rfl hl.1 rfl (Nat.le_of_ble_eq_true rfl) dX2_worstSample_38 (Nat.zero_le _) (Nat.zero_le _)) hP hD hS hA [0, 1, 2, 3, 4] [] rfl rfl (by decide) (by decide) (fun r u H locs hw hP hD hS => ?_)
          subst hw
          have hP : va_P D classes [(h0, .inr (2, [.ref hn, .ref hi0, .ref hi1, .int kp, .ref hR, .ref hT])), (hn, .inr (1, [.ref nx, .ref ny, .int now.2.2.1, .int now.2.2.2.1, .int now.2.2.2.2])), (nx, .inl (cI, 10, .inl now.1)), (ny, .inl (cI, 10, .inl now.2.1)), (hR, .inr (0, rdv r))] H := hP
          have hD : va_D A [(h0, .inr (2, [.ref hn, .ref hi0, .ref hi1, .int kp, .ref hR, .ref hT])), (hn, .inr (1, [.ref nx, .ref ny, .int now.2.2.1, .int now.2.2.2.1, .int now.2.2.2.2])), (nx, .inl (cI, 10, .inl now.1)), (ny, .inl (cI, 10, .inl now.2.1)), (hR, .inr (0, rdv r))] := hD
          refine lv_lstore (lv' := [(5, .long (F_X2_sizeUpper now r i)), (0, .ref h0), (1, .int w), (2, .long g), (4, .int i)]) hx hb dX2_worstSample_41 hl (by decide) rfl (fun ls hl => ?_)
          refine lv_lload hx hb dX2_worstSample_43 (lv_at hl 0 rfl) ?_
          refine lv_lload_n hx hb dX2_worstSample_45 rfl (lv_at hl 3 rfl) ?_
          refine W.lcmp hx hb dX2_worstSample_46 ?_
          refine lv_if_le (tgt := 56) hx hb dX2_worstSample_47 (by decide) (fun c_47 => ?_) (fun c_47 => ?_)
          · refine lv_iinc (v := i + 1) (lv' := [(4, .int (i + 1)), (5, .long (F_X2_sizeUpper now r i)), (0, .ref h0), (1, .int w), (2, .long g)]) hx hb dX2_worstSample_56 hl (k := 4) rfl rfl (by decide) rfl (fun ls hl => ?_)
            refine lv_goto (tgt := 9) hx hb dX2_worstSample_59 (by decide) ?_
            exact ih (k + 1) w g (i + 1) (i_succ hi (by omega)) (i_lt10 hi c_13) (by omega) X (hX.trans ((if_neg c_13).trans ((if_neg c_28).trans ((if_pos c_47))))) _ _ hP hD hS _ (lv_sub hl [2, 3, 4, 0] rfl)
          · refine lv_lload hx hb dX2_worstSample_50 (lv_at hl 0 rfl) ?_
            refine lv_lstore_n (lv' := [(2, .long (F_X2_sizeUpper now r i)), (5, .long (F_X2_sizeUpper now r i)), (0, .ref h0), (1, .int w), (4, .int i)]) hx hb dX2_worstSample_52 rfl hl (by decide) rfl (fun ls hl => ?_)
            refine lv_iload hx hb dX2_worstSample_53 (lv_at hl 4 rfl) ?_
            refine lv_istore_n (lv' := [(1, .int i), (2, .long (F_X2_sizeUpper now r i)), (5, .long (F_X2_sizeUpper now r i)), (0, .ref h0), (4, .int i)]) hx hb dX2_worstSample_55 rfl hl (by decide) rfl (fun ls hl => ?_)
            refine lv_iinc (v := i + 1) (lv' := [(4, .int (i + 1)), (1, .int i), (2, .long (F_X2_sizeUpper now r i)), (5, .long (F_X2_sizeUpper now r i)), (0, .ref h0)]) hx hb dX2_worstSample_56 hl (k := 4) rfl rfl (by decide) rfl (fun ls hl => ?_)
            refine lv_goto (tgt := 9) hx hb dX2_worstSample_59 (by decide) ?_
            exact ih (k + 1) i (F_X2_sizeUpper now r i) (i + 1) (i_succ hi (by omega)) (i_lt10 hi c_13) (by omega) X (hX.trans ((if_neg c_13).trans ((if_neg c_28).trans ((if_neg c_47))))) _ _ hP hD hS _ (lv_sub hl [4, 1, 2, 0] rfl)
  have hl : lv_has ls 7 [(0, .ref h0)] := hl
  refine lv_iconst (v := 0) hx hb dX2_worstSample_0 (by decide) ?_
  refine lv_istore_n (lv' := [(1, .int 0), (0, .ref h0)]) hx hb dX2_worstSample_1 rfl hl (by decide) rfl (fun ls hl => ?_)
  refine lv_ldc2 (v := (-1)) hx hb hown (hts (.constantLong RX2 173 (-1)) (List.mem_of_getElem? (i := 1) rfl)) dX2_worstSample_2 ?_
  refine lv_lstore_n (lv' := [(2, .long (-1)), (1, .int 0), (0, .ref h0)]) hx hb dX2_worstSample_5 rfl hl (by decide) rfl (fun ls hl => ?_)
  refine lv_iconst (v := 0) hx hb dX2_worstSample_6 (by decide) ?_
  refine lv_istore (lv' := [(4, .int 0), (2, .long (-1)), (1, .int 0), (0, .ref h0)]) hx hb dX2_worstSample_7 hl (by decide) rfl (fun ls hl => ?_)
  exact K9 11 0 0 (-1) 0 rfl (by omega) (by omega) (F_X2_worstSample now r) rfl _ _ hP hD hS _ (lv_sub hl [3, 2, 1, 0] rfl)
def L_X2_coverBy_4 (now : Sm) (r : Rd) : Nat → Int32 → Int32 → Int32
  | 0, _, _ => 0
  | n + 1, v, i => if 10 ≤ i then (v) else (if (F_X2_isIn now.2.2.2.1 i) = 0 then (L_X2_coverBy_4 now r n v (i + 1)) else (L_X2_coverBy_4 now r n (v ||| (F_X2_setOfEighth (F_X0_eighthAt r (now.1 i.toNatClampNeg) (now.2.1 i.toNatClampNeg)))) (i + 1)))
def F_X2_coverBy (now : Sm) (r : Rd) : Int32 := L_X2_coverBy_4 now r 11 0 0
theorem iX2_coverBy_X1 : ∀ w ∈ u_ws RX1 TX1 5, w ∈ wsX2_coverBy := fun _ h => List.mem_cons_of_mem _ (List.mem_append_left _ (List.mem_append_right _ (h)))
theorem iX2_coverBy_X2 : ∀ w ∈ u_ws RX2 TX2 6, w ∈ wsX2_coverBy := fun _ h => List.mem_cons_of_mem _ (List.mem_append_left _ (List.mem_append_left _ (List.mem_append_right _ (h))))
set_option maxHeartbeats 4000000 in
set_option maxRecDepth 100000 in
theorem c_X2_coverBy (l : Launch) (D : va_G) (cI cZ : ClassId) (h0 hr hn hi0 hi1 hR hT nx ny : Nat) (now : Sm) (kp : Int32) (r : Rd) : CTi l yX2_coverBy wsX2_coverBy ({ frames := 2, cells := 0, slots := 0, locals := 45 } : Room) D cI cZ [.ref h0, .ref hr] [(h0, .inr (2, [.ref hn, .ref hi0, .ref hi1, .int kp, .ref hR, .ref hT])), (hn, .inr (1, [.ref nx, .ref ny, .int now.2.2.1, .int now.2.2.2.1, .int now.2.2.2.2])), (nx, .inl (cI, 10, .inl now.1)), (ny, .inl (cI, 10, .inl now.2.1)), (hr, .inr (0, rdv r))] (S := Unit) (fun z9 _ => F_X2_coverBy now r = z9) (fun _ => [(h0, .inr (2, [.ref hn, .ref hi0, .ref hi1, .int kp, .ref hR, .ref hT])), (hn, .inr (1, [.ref nx, .ref ny, .int now.2.2.1, .int now.2.2.2.1, .int now.2.2.2.2])), (nx, .inl (cI, 10, .inl now.1)), (ny, .inl (cI, 10, .inl now.2.1)), (hr, .inr (0, rdv r))]) := by
  refine enterM (cc := cX2_coverBy) (maxL := 4) (ret := (some .int)) (own := RX2) (Qc := fun A => va_Qi (S := Unit) (fun z9 _ => F_X2_coverBy now r = z9) (PoB (S := Unit) D A (fun _ => [(h0, .inr (2, [.ref hn, .ref hi0, .ref hi1, .int kp, .ref hR, .ref hT])), (hn, .inr (1, [.ref nx, .ref ny, .int now.2.2.1, .int now.2.2.2.1, .int now.2.2.2.2])), (nx, .inl (cI, 10, .inl now.1)), (ny, .inl (cI, 10, .inl now.2.1)), (hr, .inr (0, rdv r))])) A) (by decide) rfl rfl (Nat.le_of_ble_eq_true rfl) ?_
  intro p e s m below meth c A ls C hK hA hP hD hS hl
  have hx := C.1
  have hb := C.2.1
  have hown := C.2.2.2.1
  have hts := C.2.2.2.2.1
  have _huse := hts
  have K4 : ∀ (n : Nat) (k : Nat) (v : Int32) (i : Int32) (_ : i.toInt = (k : Int)) (_ : k ≤ 10) (_ : 10 < k + n) (X : Int32) (_ : X = L_X2_coverBy_4 now r n v i) (H : Heap) (locs : List Loc) (_ : va_P D classes [(h0, .inr (2, [.ref hn, .ref hi0, .ref hi1, .int kp, .ref hR, .ref hT])), (hn, .inr (1, [.ref nx, .ref ny, .int now.2.2.1, .int now.2.2.2.1, .int now.2.2.2.2])), (nx, .inl (cI, 10, .inl now.1)), (ny, .inl (cI, 10, .inl now.2.1)), (hr, .inr (0, rdv r))] H) (_ : va_D A [(h0, .inr (2, [.ref hn, .ref hi0, .ref hi1, .int kp, .ref hR, .ref hT])), (hn, .inr (1, [.ref nx, .ref ny, .int now.2.2.1, .int now.2.2.2.1, .int now.2.2.2.2])), (nx, .inl (cI, 10, .inl now.1)), (ny, .inl (cI, 10, .inl now.2.1)), (hr, .inr (0, rdv r))]) (_ : va_S A s.heap H locs) (ls : Array Slot) (_ : lv_has ls 4 [(0, .ref h0), (1, .ref hr), (2, .int v), (3, .int i)]), W p l e ({ frames := 2, cells := 0, slots := 0, locals := 45 } : Room) s m [.ref h0, .ref hr].toArray below meth c H locs 0 0 (MQ below (va_Qi (S := Unit) (fun z9 _ => X = z9) (PoB (S := Unit) D A (fun _ => [(h0, .inr (2, [.ref hn, .ref hi0, .ref hi1, .int kp, .ref hR, .ref hT])), (hn, .inr (1, [.ref nx, .ref ny, .int now.2.2.1, .int now.2.2.2.1, .int now.2.2.2.2])), (nx, .inl (cI, 10, .inl now.1)), (ny, .inl (cI, 10, .inl now.2.1)), (hr, .inr (0, rdv r))])) A) [.ref h0, .ref hr].toArray s 0 0 A) (F0 m 4 ls []) := by
    intro n
    induction n with
    | zero =>
      intro k v i hi hk hfu X hX H locs hP hD hS ls hl
      exact absurd hfu (by omega)
    | succ n ih =>
      intro k v i hi hk hfu X hX H locs hP hD hS ls hl
      refine lv_iload_n hx hb dX2_coverBy_4 rfl (lv_at hl 3 rfl) ?_
      refine lv_bipush (v := 10) hx hb dX2_coverBy_5 (by decide) ?_
      refine lv_icmp_ge (tgt := 58) hx hb dX2_coverBy_7 (by decide) (fun c_7 => ?_) (fun c_7 => ?_)
      · refine lv_iload_n hx hb dX2_coverBy_58 rfl (lv_at hl 2 rfl) ?_
        exact ret_i C () (hX.trans ((if_pos c_7))) hP hD hS dX2_coverBy_59
      · refine lv_aload_n hx hb dX2_coverBy_10 rfl (lv_at hl 0 rfl) ?_
        refine va_get (D := D) (ci := 2) (v := .ref hn) (C := RX2) (T := TX2) (N := 6) hx hb hts iX2_coverBy_X2 hown hK.1 hP 0 rfl rfl 0 (by decide) (hts (.fieldLink RX2 12 "CompassBias" "now" "LCompassBias$Samples;") (List.mem_of_getElem? (i := 1) rfl)) (fun _ h9 => h9) rfl dX2_coverBy_11 ?_
        refine va_get (D := D) (ci := 1) (v := .int now.2.2.2.1) (C := RX1) (T := TX1) (N := 5) hx hb hts iX2_coverBy_X1 hown hK.1 hP 1 rfl rfl 3 (by decide) (hts (.fieldLink RX2 50 "CompassBias$Samples" "taken" "I") (List.mem_of_getElem? (i := 2) rfl)) (fun _ h9 => h9) rfl dX2_coverBy_14 ?_
        refine lv_iload_n hx hb dX2_coverBy_17 rfl (lv_at hl 3 rfl) ?_
        refine aft_i (wr := [(h0, .inr (2, [.ref hn, .ref hi0, .ref hi1, .int kp, .ref hR, .ref hT])), (hn, .inr (1, [.ref nx, .ref ny, .int now.2.2.1, .int now.2.2.2.1, .int now.2.2.2.2])), (nx, .inl (cI, 10, .inl now.1)), (ny, .inl (cI, 10, .inl now.2.1)), (hr, .inr (0, rdv r))]) (run_S (As := [.int now.2.2.2.1, .int i]) (rest := []) C (c_X2_isIn l D cI cZ now.2.2.2.1 i) (va_cwS 2 hts gX2_coverBy_X2_isIn rfl rfl rfl (by decide +kernel) ⟨Nat.le_of_ble_eq_true rfl, Nat.le_of_ble_eq_true rfl⟩) hK (hP.sub (ws' := []) [] rfl) (hD.sub (ws' := []) [] (by decide) rfl) rfl hl.1 rfl (Nat.le_of_ble_eq_true rfl) dX2_coverBy_18 (Nat.zero_le _) (Nat.zero_le _)) hP hD hS hA [] [0, 1, 2, 3, 4] rfl rfl (by decide) (by decide) (fun r u H locs hw hP hD hS => ?_)
        subst hw
        have hP : va_P D classes [(h0, .inr (2, [.ref hn, .ref hi0, .ref hi1, .int kp, .ref hR, .ref hT])), (hn, .inr (1, [.ref nx, .ref ny, .int now.2.2.1, .int now.2.2.2.1, .int now.2.2.2.2])), (nx, .inl (cI, 10, .inl now.1)), (ny, .inl (cI, 10, .inl now.2.1)), (hr, .inr (0, rdv r))] H := hP
        have hD : va_D A [(h0, .inr (2, [.ref hn, .ref hi0, .ref hi1, .int kp, .ref hR, .ref hT])), (hn, .inr (1, [.ref nx, .ref ny, .int now.2.2.1, .int now.2.2.2.1, .int now.2.2.2.2])), (nx, .inl (cI, 10, .inl now.1)), (ny, .inl (cI, 10, .inl now.2.1)), (hr, .inr (0, rdv r))] := hD
        refine lv_if_eq (tgt := 52) hx hb dX2_coverBy_21 (by decide) (fun c_21 => ?_) (fun c_21 => ?_)
        · refine lv_iinc (v := i + 1) (lv' := [(3, .int (i + 1)), (0, .ref h0), (1, .ref hr), (2, .int v)]) hx hb dX2_coverBy_52 hl (k := 3) rfl rfl (by decide) rfl (fun ls hl => ?_)
          refine lv_goto (tgt := 4) hx hb dX2_coverBy_55 (by decide) ?_
          exact ih (k + 1) v (i + 1) (i_succ hi (by omega)) (i_lt10 hi c_7) (by omega) X (hX.trans ((if_neg c_7).trans ((if_pos c_21)))) _ _ hP hD hS _ (lv_sub hl [1, 2, 3, 0] rfl)
        · refine lv_iload_n hx hb dX2_coverBy_24 rfl (lv_at hl 2 rfl) ?_
          refine lv_aload_n hx hb dX2_coverBy_25 rfl (lv_at hl 1 rfl) ?_
          refine lv_aload_n hx hb dX2_coverBy_26 rfl (lv_at hl 0 rfl) ?_
          refine va_get (D := D) (ci := 2) (v := .ref hn) (C := RX2) (T := TX2) (N := 6) hx hb hts iX2_coverBy_X2 hown hK.1 hP 0 rfl rfl 0 (by decide) (hts (.fieldLink RX2 12 "CompassBias" "now" "LCompassBias$Samples;") (List.mem_of_getElem? (i := 1) rfl)) (fun _ h9 => h9) rfl dX2_coverBy_27 ?_
          refine va_get (D := D) (ci := 1) (v := .ref nx) (C := RX1) (T := TX1) (N := 5) hx hb hts iX2_coverBy_X1 hown hK.1 hP 1 rfl rfl 0 (by decide) (hts (.fieldLink RX2 43 "CompassBias$Samples" "xs" "[I") (List.mem_of_getElem? (i := 3) rfl)) (fun _ h9 => h9) rfl dX2_coverBy_30 ?_
          refine lv_iload_n hx hb dX2_coverBy_33 rfl (lv_at hl 3 rfl) ?_
          refine va_iald hx hb hK.1 hP 2 0 rfl rfl (vp_of hi (i_lt10 hi c_7)) dX2_coverBy_34 ?_
          refine lv_aload_n hx hb dX2_coverBy_35 rfl (lv_at hl 0 rfl) ?_
          refine va_get (D := D) (ci := 2) (v := .ref hn) (C := RX2) (T := TX2) (N := 6) hx hb hts iX2_coverBy_X2 hown hK.1 hP 0 rfl rfl 0 (by decide) (hts (.fieldLink RX2 12 "CompassBias" "now" "LCompassBias$Samples;") (List.mem_of_getElem? (i := 1) rfl)) (fun _ h9 => h9) rfl dX2_coverBy_36 ?_
          refine va_get (D := D) (ci := 1) (v := .ref ny) (C := RX1) (T := TX1) (N := 5) hx hb hts iX2_coverBy_X1 hown hK.1 hP 1 rfl rfl 1 (by decide) (hts (.fieldLink RX2 47 "CompassBias$Samples" "ys" "[I") (List.mem_of_getElem? (i := 4) rfl)) (fun _ h9 => h9) rfl dX2_coverBy_39 ?_
          refine lv_iload_n hx hb dX2_coverBy_42 rfl (lv_at hl 3 rfl) ?_
          refine va_iald hx hb hK.1 hP 3 0 rfl rfl (vp_of hi (i_lt10 hi c_7)) dX2_coverBy_43 ?_
          refine aft_i (wr := [(h0, .inr (2, [.ref hn, .ref hi0, .ref hi1, .int kp, .ref hR, .ref hT])), (hn, .inr (1, [.ref nx, .ref ny, .int now.2.2.1, .int now.2.2.2.1, .int now.2.2.2.2])), (nx, .inl (cI, 10, .inl now.1)), (ny, .inl (cI, 10, .inl now.2.1))]) (run_V (As := [.int (now.1 i.toNatClampNeg), .int (now.2.1 i.toNatClampNeg)]) (rest := [.int v]) C (c_X0_eighthAt l D cI cZ hr r (now.1 i.toNatClampNeg) (now.2.1 i.toNatClampNeg)) (cwV 2 hts gX2_coverBy_X0_eighthAt rfl rfl rfl (by decide +kernel) ⟨Nat.le_of_ble_eq_true rfl, Nat.le_of_ble_eq_true rfl⟩) hK (hP.sub (ws' := [(hr, .inr (0, rdv r))]) [4] rfl) (hD.sub (ws' := [(hr, .inr (0, rdv r))]) [4] (by decide) rfl) 0 0 rfl rfl rfl rfl hl.1 rfl (Nat.le_of_ble_eq_true rfl) dX2_coverBy_44 (Nat.zero_le _) (Nat.zero_le _)) hP hD hS hA [4] [0, 1, 2, 3] rfl rfl (by decide) (by decide) (fun r u H locs hw hP hD hS => ?_)
          subst hw
          have hP : va_P D classes [(h0, .inr (2, [.ref hn, .ref hi0, .ref hi1, .int kp, .ref hR, .ref hT])), (hn, .inr (1, [.ref nx, .ref ny, .int now.2.2.1, .int now.2.2.2.1, .int now.2.2.2.2])), (nx, .inl (cI, 10, .inl now.1)), (ny, .inl (cI, 10, .inl now.2.1)), (hr, .inr (0, rdv r))] H := hP
          have hD : va_D A [(h0, .inr (2, [.ref hn, .ref hi0, .ref hi1, .int kp, .ref hR, .ref hT])), (hn, .inr (1, [.ref nx, .ref ny, .int now.2.2.1, .int now.2.2.2.1, .int now.2.2.2.2])), (nx, .inl (cI, 10, .inl now.1)), (ny, .inl (cI, 10, .inl now.2.1)), (hr, .inr (0, rdv r))] := hD
          refine aft_i (wr := [(h0, .inr (2, [.ref hn, .ref hi0, .ref hi1, .int kp, .ref hR, .ref hT])), (hn, .inr (1, [.ref nx, .ref ny, .int now.2.2.1, .int now.2.2.2.1, .int now.2.2.2.2])), (nx, .inl (cI, 10, .inl now.1)), (ny, .inl (cI, 10, .inl now.2.1)), (hr, .inr (0, rdv r))]) (run_S (As := [.int (F_X0_eighthAt r (now.1 i.toNatClampNeg) (now.2.1 i.toNatClampNeg))]) (rest := [.int v]) C (c_X2_setOfEighth l D cI cZ (F_X0_eighthAt r (now.1 i.toNatClampNeg) (now.2.1 i.toNatClampNeg))) (va_cwS 1 hts gX2_coverBy_X2_setOfEighth rfl rfl rfl (by decide +kernel) ⟨Nat.le_of_ble_eq_true rfl, Nat.le_of_ble_eq_true rfl⟩) hK (hP.sub (ws' := []) [] rfl) (hD.sub (ws' := []) [] (by decide) rfl) rfl hl.1 rfl (Nat.le_of_ble_eq_true rfl) dX2_coverBy_47 (Nat.zero_le _) (Nat.zero_le _)) hP hD hS hA [] [0, 1, 2, 3, 4] rfl rfl (by decide) (by decide) (fun r u H locs hw hP hD hS => ?_)
          subst hw
          have hP : va_P D classes [(h0, .inr (2, [.ref hn, .ref hi0, .ref hi1, .int kp, .ref hR, .ref hT])), (hn, .inr (1, [.ref nx, .ref ny, .int now.2.2.1, .int now.2.2.2.1, .int now.2.2.2.2])), (nx, .inl (cI, 10, .inl now.1)), (ny, .inl (cI, 10, .inl now.2.1)), (hr, .inr (0, rdv r))] H := hP
          have hD : va_D A [(h0, .inr (2, [.ref hn, .ref hi0, .ref hi1, .int kp, .ref hR, .ref hT])), (hn, .inr (1, [.ref nx, .ref ny, .int now.2.2.1, .int now.2.2.2.1, .int now.2.2.2.2])), (nx, .inl (cI, 10, .inl now.1)), (ny, .inl (cI, 10, .inl now.2.1)), (hr, .inr (0, rdv r))] := hD
          refine lv_ior hx hb dX2_coverBy_50 ?_
          refine lv_istore_n (lv' := [(2, .int (v ||| (F_X2_setOfEighth (F_X0_eighthAt r (now.1 i.toNatClampNeg) (now.2.1 i.toNatClampNeg))))), (0, .ref h0), (1, .ref hr), (3, .int i)]) hx hb dX2_coverBy_51 rfl hl (by decide) rfl (fun ls hl => ?_)
          refine lv_iinc (v := i + 1) (lv' := [(3, .int (i + 1)), (2, .int (v ||| (F_X2_setOfEighth (F_X0_eighthAt r (now.1 i.toNatClampNeg) (now.2.1 i.toNatClampNeg))))), (0, .ref h0), (1, .ref hr)]) hx hb dX2_coverBy_52 hl (k := 3) rfl rfl (by decide) rfl (fun ls hl => ?_)
          refine lv_goto (tgt := 4) hx hb dX2_coverBy_55 (by decide) ?_
          exact ih (k + 1) (v ||| (F_X2_setOfEighth (F_X0_eighthAt r (now.1 i.toNatClampNeg) (now.2.1 i.toNatClampNeg)))) (i + 1) (i_succ hi (by omega)) (i_lt10 hi c_7) (by omega) X (hX.trans ((if_neg c_7).trans ((if_neg c_21)))) _ _ hP hD hS _ (lv_sub hl [2, 3, 1, 0] rfl)
  have hl : lv_has ls 4 [(0, .ref h0), (1, .ref hr)] := hl
  refine lv_iconst (v := 0) hx hb dX2_coverBy_0 (by decide) ?_
  refine lv_istore_n (lv' := [(2, .int 0), (0, .ref h0), (1, .ref hr)]) hx hb dX2_coverBy_1 rfl hl (by decide) rfl (fun ls hl => ?_)
  refine lv_iconst (v := 0) hx hb dX2_coverBy_2 (by decide) ?_
  refine lv_istore_n (lv' := [(3, .int 0), (2, .int 0), (0, .ref h0), (1, .ref hr)]) hx hb dX2_coverBy_3 rfl hl (by decide) rfl (fun ls hl => ?_)
  exact K4 11 0 0 0 rfl (by omega) (by omega) (F_X2_coverBy now r) rfl _ _ hP hD hS _ (lv_sub hl [2, 3, 1, 0] rfl)
def F_X2_isTheRoundPoor (now : Sm) (r : Rd) : Int32 := if (F_X0_isFlat r) = 0 then (if now.2.2.2.2 ≤ (F_J6_bitCount_0f7a4 (F_X2_coverBy now r)) then (0) else (1)) else (1)
theorem iX2_isTheRoundPoor_X1 : ∀ w ∈ u_ws RX1 TX1 5, w ∈ wsX2_isTheRoundPoor := fun _ h => List.mem_cons_of_mem _ (List.mem_append_left _ (List.mem_append_right _ (h)))
theorem iX2_isTheRoundPoor_X2 : ∀ w ∈ u_ws RX2 TX2 6, w ∈ wsX2_isTheRoundPoor := fun _ h => List.mem_cons_of_mem _ (List.mem_append_left _ (List.mem_append_left _ (List.mem_append_right _ (h))))
set_option maxHeartbeats 4000000 in
set_option maxRecDepth 100000 in
theorem c_X2_isTheRoundPoor (l : Launch) (D : va_G) (cI cZ : ClassId) (h0 hn hi0 hi1 hR hT nx ny : Nat) (now : Sm) (kp : Int32) (r : Rd) : CTi l yX2_isTheRoundPoor wsX2_isTheRoundPoor ({ frames := 3, cells := 0, slots := 0, locals := 68 } : Room) D cI cZ [.ref h0] [(h0, .inr (2, [.ref hn, .ref hi0, .ref hi1, .int kp, .ref hR, .ref hT])), (hn, .inr (1, [.ref nx, .ref ny, .int now.2.2.1, .int now.2.2.2.1, .int now.2.2.2.2])), (nx, .inl (cI, 10, .inl now.1)), (ny, .inl (cI, 10, .inl now.2.1)), (hR, .inr (0, rdv r))] (S := Unit) (fun z9 _ => F_X2_isTheRoundPoor now r = z9) (fun _ => [(h0, .inr (2, [.ref hn, .ref hi0, .ref hi1, .int kp, .ref hR, .ref hT])), (hn, .inr (1, [.ref nx, .ref ny, .int now.2.2.1, .int now.2.2.2.1, .int now.2.2.2.2])), (nx, .inl (cI, 10, .inl now.1)), (ny, .inl (cI, 10, .inl now.2.1)), (hR, .inr (0, rdv r))]) := by
  refine enterM (cc := cX2_isTheRoundPoor) (maxL := 1) (ret := (some .boolean)) (own := RX2) (Qc := fun A => va_Qi (S := Unit) (fun z9 _ => F_X2_isTheRoundPoor now r = z9) (PoB (S := Unit) D A (fun _ => [(h0, .inr (2, [.ref hn, .ref hi0, .ref hi1, .int kp, .ref hR, .ref hT])), (hn, .inr (1, [.ref nx, .ref ny, .int now.2.2.1, .int now.2.2.2.1, .int now.2.2.2.2])), (nx, .inl (cI, 10, .inl now.1)), (ny, .inl (cI, 10, .inl now.2.1)), (hR, .inr (0, rdv r))])) A) (by decide) rfl rfl (Nat.le_of_ble_eq_true rfl) ?_
  intro p e s m below meth c A ls C hK hA hP hD hS hl
  have hx := C.1
  have hb := C.2.1
  have hown := C.2.2.2.1
  have hts := C.2.2.2.2.1
  have _huse := hts
  have hl : lv_has ls 1 [(0, .ref h0)] := hl
  refine lv_aload_n hx hb dX2_isTheRoundPoor_0 rfl (lv_at hl 0 rfl) ?_
  refine va_get (D := D) (ci := 2) (v := .ref hR) (C := RX2) (T := TX2) (N := 6) hx hb hts iX2_isTheRoundPoor_X2 hown hK.1 hP 0 rfl rfl 4 (by decide) (hts (.fieldLink RX2 29 "CompassBias" "theRound" "LCompassBias$Round;") (List.mem_of_getElem? (i := 1) rfl)) (fun _ h9 => h9) rfl dX2_isTheRoundPoor_1 ?_
  refine aft_i (wr := [(h0, .inr (2, [.ref hn, .ref hi0, .ref hi1, .int kp, .ref hR, .ref hT])), (hn, .inr (1, [.ref nx, .ref ny, .int now.2.2.1, .int now.2.2.2.1, .int now.2.2.2.2])), (nx, .inl (cI, 10, .inl now.1)), (ny, .inl (cI, 10, .inl now.2.1))]) (run_V (As := []) (rest := []) C (c_X0_isFlat l D cI cZ hR r) (cwV 0 hts gX2_isTheRoundPoor_X0_isFlat rfl rfl rfl (by decide +kernel) ⟨Nat.le_of_ble_eq_true rfl, Nat.le_of_ble_eq_true rfl⟩) hK (hP.sub (ws' := [(hR, .inr (0, rdv r))]) [4] rfl) (hD.sub (ws' := [(hR, .inr (0, rdv r))]) [4] (by decide) rfl) 0 0 rfl rfl rfl rfl hl.1 rfl (Nat.le_of_ble_eq_true rfl) dX2_isTheRoundPoor_4 (Nat.zero_le _) (Nat.zero_le _)) hP hD hS hA [4] [0, 1, 2, 3] rfl rfl (by decide) (by decide) (fun r u H locs hw hP hD hS => ?_)
  subst hw
  have hP : va_P D classes [(h0, .inr (2, [.ref hn, .ref hi0, .ref hi1, .int kp, .ref hR, .ref hT])), (hn, .inr (1, [.ref nx, .ref ny, .int now.2.2.1, .int now.2.2.2.1, .int now.2.2.2.2])), (nx, .inl (cI, 10, .inl now.1)), (ny, .inl (cI, 10, .inl now.2.1)), (hR, .inr (0, rdv r))] H := hP
  have hD : va_D A [(h0, .inr (2, [.ref hn, .ref hi0, .ref hi1, .int kp, .ref hR, .ref hT])), (hn, .inr (1, [.ref nx, .ref ny, .int now.2.2.1, .int now.2.2.2.1, .int now.2.2.2.2])), (nx, .inl (cI, 10, .inl now.1)), (ny, .inl (cI, 10, .inl now.2.1)), (hR, .inr (0, rdv r))] := hD
  refine lv_if_ne (tgt := 31) hx hb dX2_isTheRoundPoor_7 (by decide) (fun c_7 => ?_) (fun c_7 => ?_)
  · refine lv_iconst (v := 1) hx hb dX2_isTheRoundPoor_31 (by decide) ?_
    refine lv_goto (tgt := 36) hx hb dX2_isTheRoundPoor_32 (by decide) ?_
    exact ret_z C (Or.inr rfl) () (if_neg c_7) hP hD hS dX2_isTheRoundPoor_36
  · refine lv_aload_n hx hb dX2_isTheRoundPoor_10 rfl (lv_at hl 0 rfl) ?_
    refine lv_aload_n hx hb dX2_isTheRoundPoor_11 rfl (lv_at hl 0 rfl) ?_
    refine va_get (D := D) (ci := 2) (v := .ref hR) (C := RX2) (T := TX2) (N := 6) hx hb hts iX2_isTheRoundPoor_X2 hown hK.1 hP 0 rfl rfl 4 (by decide) (hts (.fieldLink RX2 29 "CompassBias" "theRound" "LCompassBias$Round;") (List.mem_of_getElem? (i := 1) rfl)) (fun _ h9 => h9) rfl dX2_isTheRoundPoor_12 ?_
    refine aft_i (wr := []) (run_V (As := [.ref hR]) (rest := []) C (c_X2_coverBy l D cI cZ h0 hR hn hi0 hi1 hR hT nx ny now kp r) (cwV 1 hts gX2_isTheRoundPoor_X2_coverBy rfl rfl rfl (by decide +kernel) ⟨Nat.le_of_ble_eq_true rfl, Nat.le_of_ble_eq_true rfl⟩) hK (hP.sub (ws' := [(h0, .inr (2, [.ref hn, .ref hi0, .ref hi1, .int kp, .ref hR, .ref hT])), (hn, .inr (1, [.ref nx, .ref ny, .int now.2.2.1, .int now.2.2.2.1, .int now.2.2.2.2])), (nx, .inl (cI, 10, .inl now.1)), (ny, .inl (cI, 10, .inl now.2.1)), (hR, .inr (0, rdv r))]) [0, 1, 2, 3, 4] rfl) (hD.sub (ws' := [(h0, .inr (2, [.ref hn, .ref hi0, .ref hi1, .int kp, .ref hR, .ref hT])), (hn, .inr (1, [.ref nx, .ref ny, .int now.2.2.1, .int now.2.2.2.1, .int now.2.2.2.2])), (nx, .inl (cI, 10, .inl now.1)), (ny, .inl (cI, 10, .inl now.2.1)), (hR, .inr (0, rdv r))]) [0, 1, 2, 3, 4] (by decide) rfl) 0 2 rfl rfl rfl rfl hl.1 rfl (Nat.le_of_ble_eq_true rfl) dX2_isTheRoundPoor_15 (Nat.zero_le _) (Nat.zero_le _)) hP hD hS hA [0, 1, 2, 3, 4] [] rfl rfl (by decide) (by decide) (fun r u H locs hw hP hD hS => ?_)
    subst hw
    have hP : va_P D classes [(h0, .inr (2, [.ref hn, .ref hi0, .ref hi1, .int kp, .ref hR, .ref hT])), (hn, .inr (1, [.ref nx, .ref ny, .int now.2.2.1, .int now.2.2.2.1, .int now.2.2.2.2])), (nx, .inl (cI, 10, .inl now.1)), (ny, .inl (cI, 10, .inl now.2.1)), (hR, .inr (0, rdv r))] H := hP
    have hD : va_D A [(h0, .inr (2, [.ref hn, .ref hi0, .ref hi1, .int kp, .ref hR, .ref hT])), (hn, .inr (1, [.ref nx, .ref ny, .int now.2.2.1, .int now.2.2.2.1, .int now.2.2.2.2])), (nx, .inl (cI, 10, .inl now.1)), (ny, .inl (cI, 10, .inl now.2.1)), (hR, .inr (0, rdv r))] := hD
    refine aft_i (wr := [(h0, .inr (2, [.ref hn, .ref hi0, .ref hi1, .int kp, .ref hR, .ref hT])), (hn, .inr (1, [.ref nx, .ref ny, .int now.2.2.1, .int now.2.2.2.1, .int now.2.2.2.2])), (nx, .inl (cI, 10, .inl now.1)), (ny, .inl (cI, 10, .inl now.2.1)), (hR, .inr (0, rdv r))]) (run_S (As := [.int (F_X2_coverBy now r)]) (rest := []) C (c_J6_bitCount_0f7a4 l D cI cZ (F_X2_coverBy now r)) (va_cwS 1 hts gX2_isTheRoundPoor_J6_bitCount_0f7a4 rfl rfl rfl (by decide +kernel) ⟨Nat.le_of_ble_eq_true rfl, Nat.le_of_ble_eq_true rfl⟩) hK (hP.sub (ws' := []) [] rfl) (hD.sub (ws' := []) [] (by decide) rfl) rfl hl.1 rfl (Nat.le_of_ble_eq_true rfl) dX2_isTheRoundPoor_18 (Nat.zero_le _) (Nat.zero_le _)) hP hD hS hA [] [0, 1, 2, 3, 4] rfl rfl (by decide) (by decide) (fun r u H locs hw hP hD hS => ?_)
    subst hw
    have hP : va_P D classes [(h0, .inr (2, [.ref hn, .ref hi0, .ref hi1, .int kp, .ref hR, .ref hT])), (hn, .inr (1, [.ref nx, .ref ny, .int now.2.2.1, .int now.2.2.2.1, .int now.2.2.2.2])), (nx, .inl (cI, 10, .inl now.1)), (ny, .inl (cI, 10, .inl now.2.1)), (hR, .inr (0, rdv r))] H := hP
    have hD : va_D A [(h0, .inr (2, [.ref hn, .ref hi0, .ref hi1, .int kp, .ref hR, .ref hT])), (hn, .inr (1, [.ref nx, .ref ny, .int now.2.2.1, .int now.2.2.2.1, .int now.2.2.2.2])), (nx, .inl (cI, 10, .inl now.1)), (ny, .inl (cI, 10, .inl now.2.1)), (hR, .inr (0, rdv r))] := hD
    refine lv_aload_n hx hb dX2_isTheRoundPoor_21 rfl (lv_at hl 0 rfl) ?_
    refine va_get (D := D) (ci := 2) (v := .ref hn) (C := RX2) (T := TX2) (N := 6) hx hb hts iX2_isTheRoundPoor_X2 hown hK.1 hP 0 rfl rfl 0 (by decide) (hts (.fieldLink RX2 12 "CompassBias" "now" "LCompassBias$Samples;") (List.mem_of_getElem? (i := 2) rfl)) (fun _ h9 => h9) rfl dX2_isTheRoundPoor_22 ?_
    refine va_get (D := D) (ci := 1) (v := .int now.2.2.2.2) (C := RX1) (T := TX1) (N := 5) hx hb hts iX2_isTheRoundPoor_X1 hown hK.1 hP 1 rfl rfl 4 (by decide) (hts (.fieldLink RX2 122 "CompassBias$Samples" "needed" "I") (List.mem_of_getElem? (i := 3) rfl)) (fun _ h9 => h9) rfl dX2_isTheRoundPoor_25 ?_
    refine lv_icmp_ge (tgt := 35) hx hb dX2_isTheRoundPoor_28 (by decide) (fun c_28 => ?_) (fun c_28 => ?_)
    · refine lv_iconst (v := 0) hx hb dX2_isTheRoundPoor_35 (by decide) ?_
      exact ret_z C (Or.inl rfl) () ((if_pos c_7).trans ((if_pos c_28))) hP hD hS dX2_isTheRoundPoor_36
    · refine lv_iconst (v := 1) hx hb dX2_isTheRoundPoor_31 (by decide) ?_
      refine lv_goto (tgt := 36) hx hb dX2_isTheRoundPoor_32 (by decide) ?_
      exact ret_z C (Or.inr rfl) () ((if_pos c_7).trans ((if_neg c_28))) hP hD hS dX2_isTheRoundPoor_36
def F_X2_isSizeAbove (now : Sm) (r : Rd) (p0 : Int32) (p1 : Int32) : Int32 := if (lg_cmp (F_X2_sizeUpper now r p0) (p1.toInt64 * (F_X0_fullLower r))) ≤ 0 then (0) else (1)
set_option maxHeartbeats 4000000 in
set_option maxRecDepth 100000 in
theorem c_X2_isSizeAbove (l : Launch) (D : va_G) (cI cZ : ClassId) (h0 hr hn hi0 hi1 hR hT nx ny : Nat) (now : Sm) (kp : Int32) (r : Rd) (p0 : Int32) (p1 : Int32) : CTi l yX2_isSizeAbove wsX2_isSizeAbove ({ frames := 3, cells := 0, slots := 0, locals := 65 } : Room) D cI cZ [.ref h0, .ref hr, .int p0, .int p1] [(h0, .inr (2, [.ref hn, .ref hi0, .ref hi1, .int kp, .ref hR, .ref hT])), (hn, .inr (1, [.ref nx, .ref ny, .int now.2.2.1, .int now.2.2.2.1, .int now.2.2.2.2])), (nx, .inl (cI, 10, .inl now.1)), (ny, .inl (cI, 10, .inl now.2.1)), (hr, .inr (0, rdv r))] (S := Unit) (fun z9 _ => F_X2_isSizeAbove now r p0 p1 = z9) (fun _ => [(h0, .inr (2, [.ref hn, .ref hi0, .ref hi1, .int kp, .ref hR, .ref hT])), (hn, .inr (1, [.ref nx, .ref ny, .int now.2.2.1, .int now.2.2.2.1, .int now.2.2.2.2])), (nx, .inl (cI, 10, .inl now.1)), (ny, .inl (cI, 10, .inl now.2.1)), (hr, .inr (0, rdv r))]) := by
  refine enterM (cc := cX2_isSizeAbove) (maxL := 4) (ret := (some .boolean)) (own := RX2) (Qc := fun A => va_Qi (S := Unit) (fun z9 _ => F_X2_isSizeAbove now r p0 p1 = z9) (PoB (S := Unit) D A (fun _ => [(h0, .inr (2, [.ref hn, .ref hi0, .ref hi1, .int kp, .ref hR, .ref hT])), (hn, .inr (1, [.ref nx, .ref ny, .int now.2.2.1, .int now.2.2.2.1, .int now.2.2.2.2])), (nx, .inl (cI, 10, .inl now.1)), (ny, .inl (cI, 10, .inl now.2.1)), (hr, .inr (0, rdv r))])) A) (by decide) rfl rfl (Nat.le_of_ble_eq_true rfl) ?_
  intro p e s m below meth c A ls C hK hA hP hD hS hl
  have hx := C.1
  have hb := C.2.1
  have hown := C.2.2.2.1
  have hts := C.2.2.2.2.1
  have _huse := hts
  have hl : lv_has ls 4 [(0, .ref h0), (1, .ref hr), (2, .int p0), (3, .int p1)] := hl
  refine lv_aload_n hx hb dX2_isSizeAbove_0 rfl (lv_at hl 0 rfl) ?_
  refine lv_aload_n hx hb dX2_isSizeAbove_1 rfl (lv_at hl 1 rfl) ?_
  refine lv_iload_n hx hb dX2_isSizeAbove_2 rfl (lv_at hl 2 rfl) ?_
  refine aft_l (wr := []) (run_V (As := [.ref hr, .int p0]) (rest := []) C (c_X2_sizeUpper l D cI cZ h0 hr hn hi0 hi1 hR hT nx ny now kp r p0) (cwV 2 hts gX2_isSizeAbove_X2_sizeUpper rfl rfl rfl (by decide +kernel) ⟨Nat.le_of_ble_eq_true rfl, Nat.le_of_ble_eq_true rfl⟩) hK (hP.sub (ws' := [(h0, .inr (2, [.ref hn, .ref hi0, .ref hi1, .int kp, .ref hR, .ref hT])), (hn, .inr (1, [.ref nx, .ref ny, .int now.2.2.1, .int now.2.2.2.1, .int now.2.2.2.2])), (nx, .inl (cI, 10, .inl now.1)), (ny, .inl (cI, 10, .inl now.2.1)), (hr, .inr (0, rdv r))]) [0, 1, 2, 3, 4] rfl) (hD.sub (ws' := [(h0, .inr (2, [.ref hn, .ref hi0, .ref hi1, .int kp, .ref hR, .ref hT])), (hn, .inr (1, [.ref nx, .ref ny, .int now.2.2.1, .int now.2.2.2.1, .int now.2.2.2.2])), (nx, .inl (cI, 10, .inl now.1)), (ny, .inl (cI, 10, .inl now.2.1)), (hr, .inr (0, rdv r))]) [0, 1, 2, 3, 4] (by decide) rfl) 0 2 rfl rfl rfl rfl hl.1 rfl (Nat.le_of_ble_eq_true rfl) dX2_isSizeAbove_3 (Nat.zero_le _) (Nat.zero_le _)) hP hD hS hA [0, 1, 2, 3, 4] [] rfl rfl (by decide) (by decide) (fun r u H locs hw hP hD hS => ?_)
  subst hw
  have hP : va_P D classes [(h0, .inr (2, [.ref hn, .ref hi0, .ref hi1, .int kp, .ref hR, .ref hT])), (hn, .inr (1, [.ref nx, .ref ny, .int now.2.2.1, .int now.2.2.2.1, .int now.2.2.2.2])), (nx, .inl (cI, 10, .inl now.1)), (ny, .inl (cI, 10, .inl now.2.1)), (hr, .inr (0, rdv r))] H := hP
  have hD : va_D A [(h0, .inr (2, [.ref hn, .ref hi0, .ref hi1, .int kp, .ref hR, .ref hT])), (hn, .inr (1, [.ref nx, .ref ny, .int now.2.2.1, .int now.2.2.2.1, .int now.2.2.2.2])), (nx, .inl (cI, 10, .inl now.1)), (ny, .inl (cI, 10, .inl now.2.1)), (hr, .inr (0, rdv r))] := hD
  refine lv_iload_n hx hb dX2_isSizeAbove_6 rfl (lv_at hl 3 rfl) ?_
  refine lv_i2l (v := p1.toInt64) hx hb dX2_isSizeAbove_7 rfl ?_
  refine lv_aload_n hx hb dX2_isSizeAbove_8 rfl (lv_at hl 1 rfl) ?_
  refine aft_l (wr := [(h0, .inr (2, [.ref hn, .ref hi0, .ref hi1, .int kp, .ref hR, .ref hT])), (hn, .inr (1, [.ref nx, .ref ny, .int now.2.2.1, .int now.2.2.2.1, .int now.2.2.2.2])), (nx, .inl (cI, 10, .inl now.1)), (ny, .inl (cI, 10, .inl now.2.1))]) (run_V (As := []) (rest := [.long p1.toInt64, .long (F_X2_sizeUpper now r p0)]) C (c_X0_fullLower l D cI cZ hr r) (cwV 0 hts gX2_isSizeAbove_X0_fullLower rfl rfl rfl (by decide +kernel) ⟨Nat.le_of_ble_eq_true rfl, Nat.le_of_ble_eq_true rfl⟩) hK (hP.sub (ws' := [(hr, .inr (0, rdv r))]) [4] rfl) (hD.sub (ws' := [(hr, .inr (0, rdv r))]) [4] (by decide) rfl) 0 0 rfl rfl rfl rfl hl.1 rfl (Nat.le_of_ble_eq_true rfl) dX2_isSizeAbove_9 (Nat.zero_le _) (Nat.zero_le _)) hP hD hS hA [4] [0, 1, 2, 3] rfl rfl (by decide) (by decide) (fun r u H locs hw hP hD hS => ?_)
  subst hw
  have hP : va_P D classes [(h0, .inr (2, [.ref hn, .ref hi0, .ref hi1, .int kp, .ref hR, .ref hT])), (hn, .inr (1, [.ref nx, .ref ny, .int now.2.2.1, .int now.2.2.2.1, .int now.2.2.2.2])), (nx, .inl (cI, 10, .inl now.1)), (ny, .inl (cI, 10, .inl now.2.1)), (hr, .inr (0, rdv r))] H := hP
  have hD : va_D A [(h0, .inr (2, [.ref hn, .ref hi0, .ref hi1, .int kp, .ref hR, .ref hT])), (hn, .inr (1, [.ref nx, .ref ny, .int now.2.2.1, .int now.2.2.2.1, .int now.2.2.2.2])), (nx, .inl (cI, 10, .inl now.1)), (ny, .inl (cI, 10, .inl now.2.1)), (hr, .inr (0, rdv r))] := hD
  refine lv_lmul hx hb dX2_isSizeAbove_12 ?_
  refine W.lcmp hx hb dX2_isSizeAbove_13 ?_
  refine lv_if_le (tgt := 21) hx hb dX2_isSizeAbove_14 (by decide) (fun c_14 => ?_) (fun c_14 => ?_)
  · refine lv_iconst (v := 0) hx hb dX2_isSizeAbove_21 (by decide) ?_
    exact ret_z C (Or.inl rfl) () (if_pos c_14) hP hD hS dX2_isSizeAbove_22
  · refine lv_iconst (v := 1) hx hb dX2_isSizeAbove_17 (by decide) ?_
    refine lv_goto (tgt := 22) hx hb dX2_isSizeAbove_18 (by decide) ?_
    exact ret_z C (Or.inr rfl) () (if_neg c_14) hP hD hS dX2_isSizeAbove_22
def F_X2_isToTrim (now : Sm) (r : Rd) (p0 : Int32) : Int32 := if (F_J6_bitCount_0f7a4 now.2.2.2.1) ≤ 4 then (0) else (if (F_X0_isFlat r) = 0 then (if (F_X2_isSizeAbove now r (F_X2_worstSample now r) p0) = 0 then (0) else (1)) else (0))
theorem iX2_isToTrim_X1 : ∀ w ∈ u_ws RX1 TX1 5, w ∈ wsX2_isToTrim := fun _ h => List.mem_cons_of_mem _ (List.mem_append_left _ (List.mem_append_right _ (h)))
theorem iX2_isToTrim_X2 : ∀ w ∈ u_ws RX2 TX2 6, w ∈ wsX2_isToTrim := fun _ h => List.mem_cons_of_mem _ (List.mem_append_left _ (List.mem_append_left _ (List.mem_append_right _ (h))))
set_option maxHeartbeats 4000000 in
set_option maxRecDepth 100000 in
theorem c_X2_isToTrim (l : Launch) (D : va_G) (cI cZ : ClassId) (h0 hn hi0 hi1 hR hT nx ny : Nat) (now : Sm) (kp : Int32) (r : Rd) (p0 : Int32) : CTi l yX2_isToTrim wsX2_isToTrim ({ frames := 4, cells := 0, slots := 0, locals := 91 } : Room) D cI cZ [.ref h0, .int p0] [(h0, .inr (2, [.ref hn, .ref hi0, .ref hi1, .int kp, .ref hR, .ref hT])), (hn, .inr (1, [.ref nx, .ref ny, .int now.2.2.1, .int now.2.2.2.1, .int now.2.2.2.2])), (nx, .inl (cI, 10, .inl now.1)), (ny, .inl (cI, 10, .inl now.2.1)), (hR, .inr (0, rdv r))] (S := Unit) (fun z9 _ => F_X2_isToTrim now r p0 = z9) (fun _ => [(h0, .inr (2, [.ref hn, .ref hi0, .ref hi1, .int kp, .ref hR, .ref hT])), (hn, .inr (1, [.ref nx, .ref ny, .int now.2.2.1, .int now.2.2.2.1, .int now.2.2.2.2])), (nx, .inl (cI, 10, .inl now.1)), (ny, .inl (cI, 10, .inl now.2.1)), (hR, .inr (0, rdv r))]) := by
  refine enterM (cc := cX2_isToTrim) (maxL := 2) (ret := (some .boolean)) (own := RX2) (Qc := fun A => va_Qi (S := Unit) (fun z9 _ => F_X2_isToTrim now r p0 = z9) (PoB (S := Unit) D A (fun _ => [(h0, .inr (2, [.ref hn, .ref hi0, .ref hi1, .int kp, .ref hR, .ref hT])), (hn, .inr (1, [.ref nx, .ref ny, .int now.2.2.1, .int now.2.2.2.1, .int now.2.2.2.2])), (nx, .inl (cI, 10, .inl now.1)), (ny, .inl (cI, 10, .inl now.2.1)), (hR, .inr (0, rdv r))])) A) (by decide) rfl rfl (Nat.le_of_ble_eq_true rfl) ?_
  intro p e s m below meth c A ls C hK hA hP hD hS hl
  have hx := C.1
  have hb := C.2.1
  have hown := C.2.2.2.1
  have hts := C.2.2.2.2.1
  have _huse := hts
  have hl : lv_has ls 2 [(0, .ref h0), (1, .int p0)] := hl
  refine lv_aload_n hx hb dX2_isToTrim_0 rfl (lv_at hl 0 rfl) ?_
  refine va_get (D := D) (ci := 2) (v := .ref hn) (C := RX2) (T := TX2) (N := 6) hx hb hts iX2_isToTrim_X2 hown hK.1 hP 0 rfl rfl 0 (by decide) (hts (.fieldLink RX2 12 "CompassBias" "now" "LCompassBias$Samples;") (List.mem_of_getElem? (i := 1) rfl)) (fun _ h9 => h9) rfl dX2_isToTrim_1 ?_
  refine va_get (D := D) (ci := 1) (v := .int now.2.2.2.1) (C := RX1) (T := TX1) (N := 5) hx hb hts iX2_isToTrim_X1 hown hK.1 hP 1 rfl rfl 3 (by decide) (hts (.fieldLink RX2 50 "CompassBias$Samples" "taken" "I") (List.mem_of_getElem? (i := 2) rfl)) (fun _ h9 => h9) rfl dX2_isToTrim_4 ?_
  refine aft_i (wr := [(h0, .inr (2, [.ref hn, .ref hi0, .ref hi1, .int kp, .ref hR, .ref hT])), (hn, .inr (1, [.ref nx, .ref ny, .int now.2.2.1, .int now.2.2.2.1, .int now.2.2.2.2])), (nx, .inl (cI, 10, .inl now.1)), (ny, .inl (cI, 10, .inl now.2.1)), (hR, .inr (0, rdv r))]) (run_S (As := [.int now.2.2.2.1]) (rest := []) C (c_J6_bitCount_0f7a4 l D cI cZ now.2.2.2.1) (va_cwS 1 hts gX2_isToTrim_J6_bitCount_0f7a4 rfl rfl rfl (by decide +kernel) ⟨Nat.le_of_ble_eq_true rfl, Nat.le_of_ble_eq_true rfl⟩) hK (hP.sub (ws' := []) [] rfl) (hD.sub (ws' := []) [] (by decide) rfl) rfl hl.1 rfl (Nat.le_of_ble_eq_true rfl) dX2_isToTrim_7 (Nat.zero_le _) (Nat.zero_le _)) hP hD hS hA [] [0, 1, 2, 3, 4] rfl rfl (by decide) (by decide) (fun r u H locs hw hP hD hS => ?_)
  subst hw
  have hP : va_P D classes [(h0, .inr (2, [.ref hn, .ref hi0, .ref hi1, .int kp, .ref hR, .ref hT])), (hn, .inr (1, [.ref nx, .ref ny, .int now.2.2.1, .int now.2.2.2.1, .int now.2.2.2.2])), (nx, .inl (cI, 10, .inl now.1)), (ny, .inl (cI, 10, .inl now.2.1)), (hR, .inr (0, rdv r))] H := hP
  have hD : va_D A [(h0, .inr (2, [.ref hn, .ref hi0, .ref hi1, .int kp, .ref hR, .ref hT])), (hn, .inr (1, [.ref nx, .ref ny, .int now.2.2.1, .int now.2.2.2.1, .int now.2.2.2.2])), (nx, .inl (cI, 10, .inl now.1)), (ny, .inl (cI, 10, .inl now.2.1)), (hR, .inr (0, rdv r))] := hD
  refine lv_iconst (v := 4) hx hb dX2_isToTrim_10 (by decide) ?_
  refine lv_icmp_le (tgt := 44) hx hb dX2_isToTrim_11 (by decide) (fun c_11 => ?_) (fun c_11 => ?_)
  · refine lv_iconst (v := 0) hx hb dX2_isToTrim_44 (by decide) ?_
    exact ret_z C (Or.inl rfl) () (if_pos c_11) hP hD hS dX2_isToTrim_45
  · refine lv_aload_n hx hb dX2_isToTrim_14 rfl (lv_at hl 0 rfl) ?_
    refine va_get (D := D) (ci := 2) (v := .ref hR) (C := RX2) (T := TX2) (N := 6) hx hb hts iX2_isToTrim_X2 hown hK.1 hP 0 rfl rfl 4 (by decide) (hts (.fieldLink RX2 29 "CompassBias" "theRound" "LCompassBias$Round;") (List.mem_of_getElem? (i := 3) rfl)) (fun _ h9 => h9) rfl dX2_isToTrim_15 ?_
    refine aft_i (wr := [(h0, .inr (2, [.ref hn, .ref hi0, .ref hi1, .int kp, .ref hR, .ref hT])), (hn, .inr (1, [.ref nx, .ref ny, .int now.2.2.1, .int now.2.2.2.1, .int now.2.2.2.2])), (nx, .inl (cI, 10, .inl now.1)), (ny, .inl (cI, 10, .inl now.2.1))]) (run_V (As := []) (rest := []) C (c_X0_isFlat l D cI cZ hR r) (cwV 0 hts gX2_isToTrim_X0_isFlat rfl rfl rfl (by decide +kernel) ⟨Nat.le_of_ble_eq_true rfl, Nat.le_of_ble_eq_true rfl⟩) hK (hP.sub (ws' := [(hR, .inr (0, rdv r))]) [4] rfl) (hD.sub (ws' := [(hR, .inr (0, rdv r))]) [4] (by decide) rfl) 0 0 rfl rfl rfl rfl hl.1 rfl (Nat.le_of_ble_eq_true rfl) dX2_isToTrim_18 (Nat.zero_le _) (Nat.zero_le _)) hP hD hS hA [4] [0, 1, 2, 3] rfl rfl (by decide) (by decide) (fun r u H locs hw hP hD hS => ?_)
    subst hw
    have hP : va_P D classes [(h0, .inr (2, [.ref hn, .ref hi0, .ref hi1, .int kp, .ref hR, .ref hT])), (hn, .inr (1, [.ref nx, .ref ny, .int now.2.2.1, .int now.2.2.2.1, .int now.2.2.2.2])), (nx, .inl (cI, 10, .inl now.1)), (ny, .inl (cI, 10, .inl now.2.1)), (hR, .inr (0, rdv r))] H := hP
    have hD : va_D A [(h0, .inr (2, [.ref hn, .ref hi0, .ref hi1, .int kp, .ref hR, .ref hT])), (hn, .inr (1, [.ref nx, .ref ny, .int now.2.2.1, .int now.2.2.2.1, .int now.2.2.2.2])), (nx, .inl (cI, 10, .inl now.1)), (ny, .inl (cI, 10, .inl now.2.1)), (hR, .inr (0, rdv r))] := hD
    refine lv_if_ne (tgt := 44) hx hb dX2_isToTrim_21 (by decide) (fun c_21 => ?_) (fun c_21 => ?_)
    · refine lv_iconst (v := 0) hx hb dX2_isToTrim_44 (by decide) ?_
      exact ret_z C (Or.inl rfl) () ((if_neg c_11).trans ((if_neg c_21))) hP hD hS dX2_isToTrim_45
    · refine lv_aload_n hx hb dX2_isToTrim_24 rfl (lv_at hl 0 rfl) ?_
      refine lv_aload_n hx hb dX2_isToTrim_25 rfl (lv_at hl 0 rfl) ?_
      refine va_get (D := D) (ci := 2) (v := .ref hR) (C := RX2) (T := TX2) (N := 6) hx hb hts iX2_isToTrim_X2 hown hK.1 hP 0 rfl rfl 4 (by decide) (hts (.fieldLink RX2 29 "CompassBias" "theRound" "LCompassBias$Round;") (List.mem_of_getElem? (i := 3) rfl)) (fun _ h9 => h9) rfl dX2_isToTrim_26 ?_
      refine lv_aload_n hx hb dX2_isToTrim_29 rfl (lv_at hl 0 rfl) ?_
      refine aft_i (wr := []) (run_V (As := []) (rest := [.ref hR, .ref h0]) C (c_X2_worstSample l D cI cZ h0 hn hi0 hi1 hR hT nx ny now kp r) (cwV 0 hts gX2_isToTrim_X2_worstSample rfl rfl rfl (by decide +kernel) ⟨Nat.le_of_ble_eq_true rfl, Nat.le_of_ble_eq_true rfl⟩) hK (hP.sub (ws' := [(h0, .inr (2, [.ref hn, .ref hi0, .ref hi1, .int kp, .ref hR, .ref hT])), (hn, .inr (1, [.ref nx, .ref ny, .int now.2.2.1, .int now.2.2.2.1, .int now.2.2.2.2])), (nx, .inl (cI, 10, .inl now.1)), (ny, .inl (cI, 10, .inl now.2.1)), (hR, .inr (0, rdv r))]) [0, 1, 2, 3, 4] rfl) (hD.sub (ws' := [(h0, .inr (2, [.ref hn, .ref hi0, .ref hi1, .int kp, .ref hR, .ref hT])), (hn, .inr (1, [.ref nx, .ref ny, .int now.2.2.1, .int now.2.2.2.1, .int now.2.2.2.2])), (nx, .inl (cI, 10, .inl now.1)), (ny, .inl (cI, 10, .inl now.2.1)), (hR, .inr (0, rdv r))]) [0, 1, 2, 3, 4] (by decide) rfl) 0 2 rfl rfl rfl rfl hl.1 rfl (Nat.le_of_ble_eq_true rfl) dX2_isToTrim_30 (Nat.zero_le _) (Nat.zero_le _)) hP hD hS hA [0, 1, 2, 3, 4] [] rfl rfl (by decide) (by decide) (fun r u H locs hw hP hD hS => ?_)
      subst hw
      have hP : va_P D classes [(h0, .inr (2, [.ref hn, .ref hi0, .ref hi1, .int kp, .ref hR, .ref hT])), (hn, .inr (1, [.ref nx, .ref ny, .int now.2.2.1, .int now.2.2.2.1, .int now.2.2.2.2])), (nx, .inl (cI, 10, .inl now.1)), (ny, .inl (cI, 10, .inl now.2.1)), (hR, .inr (0, rdv r))] H := hP
      have hD : va_D A [(h0, .inr (2, [.ref hn, .ref hi0, .ref hi1, .int kp, .ref hR, .ref hT])), (hn, .inr (1, [.ref nx, .ref ny, .int now.2.2.1, .int now.2.2.2.1, .int now.2.2.2.2])), (nx, .inl (cI, 10, .inl now.1)), (ny, .inl (cI, 10, .inl now.2.1)), (hR, .inr (0, rdv r))] := hD
      refine lv_iload_n hx hb dX2_isToTrim_33 rfl (lv_at hl 1 rfl) ?_
      refine aft_i (wr := []) (run_V (As := [.ref hR, .int (F_X2_worstSample now r), .int p0]) (rest := []) C (c_X2_isSizeAbove l D cI cZ h0 hR hn hi0 hi1 hR hT nx ny now kp r (F_X2_worstSample now r) p0) (cwV 3 hts gX2_isToTrim_X2_isSizeAbove rfl rfl rfl (by decide +kernel) ⟨Nat.le_of_ble_eq_true rfl, Nat.le_of_ble_eq_true rfl⟩) hK (hP.sub (ws' := [(h0, .inr (2, [.ref hn, .ref hi0, .ref hi1, .int kp, .ref hR, .ref hT])), (hn, .inr (1, [.ref nx, .ref ny, .int now.2.2.1, .int now.2.2.2.1, .int now.2.2.2.2])), (nx, .inl (cI, 10, .inl now.1)), (ny, .inl (cI, 10, .inl now.2.1)), (hR, .inr (0, rdv r))]) [0, 1, 2, 3, 4] rfl) (hD.sub (ws' := [(h0, .inr (2, [.ref hn, .ref hi0, .ref hi1, .int kp, .ref hR, .ref hT])), (hn, .inr (1, [.ref nx, .ref ny, .int now.2.2.1, .int now.2.2.2.1, .int now.2.2.2.2])), (nx, .inl (cI, 10, .inl now.1)), (ny, .inl (cI, 10, .inl now.2.1)), (hR, .inr (0, rdv r))]) [0, 1, 2, 3, 4] (by decide) rfl) 0 2 rfl rfl rfl rfl hl.1 rfl (Nat.le_of_ble_eq_true rfl) dX2_isToTrim_34 (Nat.zero_le _) (Nat.zero_le _)) hP hD hS hA [0, 1, 2, 3, 4] [] rfl rfl (by decide) (by decide) (fun r u H locs hw hP hD hS => ?_)
      subst hw
      have hP : va_P D classes [(h0, .inr (2, [.ref hn, .ref hi0, .ref hi1, .int kp, .ref hR, .ref hT])), (hn, .inr (1, [.ref nx, .ref ny, .int now.2.2.1, .int now.2.2.2.1, .int now.2.2.2.2])), (nx, .inl (cI, 10, .inl now.1)), (ny, .inl (cI, 10, .inl now.2.1)), (hR, .inr (0, rdv r))] H := hP
      have hD : va_D A [(h0, .inr (2, [.ref hn, .ref hi0, .ref hi1, .int kp, .ref hR, .ref hT])), (hn, .inr (1, [.ref nx, .ref ny, .int now.2.2.1, .int now.2.2.2.1, .int now.2.2.2.2])), (nx, .inl (cI, 10, .inl now.1)), (ny, .inl (cI, 10, .inl now.2.1)), (hR, .inr (0, rdv r))] := hD
      refine lv_if_eq (tgt := 44) hx hb dX2_isToTrim_37 (by decide) (fun c_37 => ?_) (fun c_37 => ?_)
      · refine lv_iconst (v := 0) hx hb dX2_isToTrim_44 (by decide) ?_
        exact ret_z C (Or.inl rfl) () ((if_neg c_11).trans ((if_pos c_21).trans ((if_pos c_37)))) hP hD hS dX2_isToTrim_45
      · refine lv_iconst (v := 1) hx hb dX2_isToTrim_40 (by decide) ?_
        refine lv_goto (tgt := 45) hx hb dX2_isToTrim_41 (by decide) ?_
        exact ret_z C (Or.inr rfl) () ((if_neg c_11).trans ((if_pos c_21).trans ((if_neg c_37)))) hP hD hS dX2_isToTrim_45
end
section
def F_X2_helpAt (now : Sm) (r : Rd) (t : Rd) (p0 : Int32) (p1 : Int32) (p2 : Int32) : Int32 × Rd := if (F_X0_isFlat (F_X0_lay (F_X0_include (F_X0_startFrom t r) p0 p1))) = 0 then (if ((F_X2_setOfEighth (F_X0_eighthAt (F_X0_lay (F_X0_include (F_X0_startFrom t r) p0 p1)) p0 p1)) &&& (p2 ^^^ (-1))) = 0 then ((0, F_X0_lay (F_X0_include (F_X0_startFrom t r) p0 p1))) else (if (F_J6_bitCount_0f7a4 ((F_X2_setOfEighth (F_X0_eighthAt (F_X0_lay (F_X0_include (F_X0_startFrom t r) p0 p1)) p0 p1)) ||| (F_X2_coverBy now (F_X0_lay (F_X0_include (F_X0_startFrom t r) p0 p1))))) < now.2.2.2.2 then ((0, F_X0_lay (F_X0_include (F_X0_startFrom t r) p0 p1))) else ((F_X2_setOfEighth (F_X0_eighthAt (F_X0_lay (F_X0_include (F_X0_startFrom t r) p0 p1)) p0 p1), F_X0_lay (F_X0_include (F_X0_startFrom t r) p0 p1))))) else ((0, F_X0_lay (F_X0_include (F_X0_startFrom t r) p0 p1)))
theorem iX2_helpAt_X1 : ∀ w ∈ u_ws RX1 TX1 5, w ∈ wsX2_helpAt := fun _ h => List.mem_cons_of_mem _ (List.mem_append_left _ (List.mem_append_right _ (h)))
theorem iX2_helpAt_X2 : ∀ w ∈ u_ws RX2 TX2 6, w ∈ wsX2_helpAt := fun _ h => List.mem_cons_of_mem _ (List.mem_append_left _ (List.mem_append_left _ (List.mem_append_right _ (h))))
set_option maxHeartbeats 4000000 in
set_option maxRecDepth 100000 in
theorem c_X2_helpAt (l : Launch) (D : va_G) (cI cZ : ClassId) (h0 hn hi0 hi1 hR hT nx ny : Nat) (now : Sm) (kp : Int32) (r : Rd) (t : Rd) (p0 : Int32) (p1 : Int32) (p2 : Int32) : CTi l yX2_helpAt wsX2_helpAt ({ frames := 3, cells := 0, slots := 0, locals := 68 } : Room) D cI cZ [.ref h0, .int p0, .int p1, .int p2] [(h0, .inr (2, [.ref hn, .ref hi0, .ref hi1, .int kp, .ref hR, .ref hT])), (hn, .inr (1, [.ref nx, .ref ny, .int now.2.2.1, .int now.2.2.2.1, .int now.2.2.2.2])), (nx, .inl (cI, 10, .inl now.1)), (ny, .inl (cI, 10, .inl now.2.1)), (hR, .inr (0, rdv r)), (hT, .inr (0, rdv t))] (S := Rd) (fun z9 u9 => F_X2_helpAt now r t p0 p1 p2 = (z9, u9)) (fun u => [(h0, .inr (2, [.ref hn, .ref hi0, .ref hi1, .int kp, .ref hR, .ref hT])), (hn, .inr (1, [.ref nx, .ref ny, .int now.2.2.1, .int now.2.2.2.1, .int now.2.2.2.2])), (nx, .inl (cI, 10, .inl now.1)), (ny, .inl (cI, 10, .inl now.2.1)), (hR, .inr (0, rdv r)), (hT, .inr (0, rdv u))]) := by
  refine enterM (cc := cX2_helpAt) (maxL := 6) (ret := (some .int)) (own := RX2) (Qc := fun A => va_Qi (S := Rd) (fun z9 u9 => F_X2_helpAt now r t p0 p1 p2 = (z9, u9)) (PoB (S := Rd) D A (fun u => [(h0, .inr (2, [.ref hn, .ref hi0, .ref hi1, .int kp, .ref hR, .ref hT])), (hn, .inr (1, [.ref nx, .ref ny, .int now.2.2.1, .int now.2.2.2.1, .int now.2.2.2.2])), (nx, .inl (cI, 10, .inl now.1)), (ny, .inl (cI, 10, .inl now.2.1)), (hR, .inr (0, rdv r)), (hT, .inr (0, rdv u))])) A) (by decide) rfl rfl (Nat.le_of_ble_eq_true rfl) ?_
  intro p e s m below meth c A ls C hK hA hP hD hS hl
  have hx := C.1
  have hb := C.2.1
  have hown := C.2.2.2.1
  have hts := C.2.2.2.2.1
  have _huse := hts
  have hl : lv_has ls 6 [(0, .ref h0), (1, .int p0), (2, .int p1), (3, .int p2)] := hl
  refine lv_aload_n hx hb dX2_helpAt_0 rfl (lv_at hl 0 rfl) ?_
  refine va_get (D := D) (ci := 2) (v := .ref hT) (C := RX2) (T := TX2) (N := 6) hx hb hts iX2_helpAt_X2 hown hK.1 hP 0 rfl rfl 5 (by decide) (hts (.fieldLink RX2 33 "CompassBias" "trial" "LCompassBias$Round;") (List.mem_of_getElem? (i := 1) rfl)) (fun _ h9 => h9) rfl dX2_helpAt_1 ?_
  refine lv_aload_n hx hb dX2_helpAt_4 rfl (lv_at hl 0 rfl) ?_
  refine va_get (D := D) (ci := 2) (v := .ref hR) (C := RX2) (T := TX2) (N := 6) hx hb hts iX2_helpAt_X2 hown hK.1 hP 0 rfl rfl 4 (by decide) (hts (.fieldLink RX2 29 "CompassBias" "theRound" "LCompassBias$Round;") (List.mem_of_getElem? (i := 2) rfl)) (fun _ h9 => h9) rfl dX2_helpAt_5 ?_
  refine aft_v (wr := [(h0, .inr (2, [.ref hn, .ref hi0, .ref hi1, .int kp, .ref hR, .ref hT])), (hn, .inr (1, [.ref nx, .ref ny, .int now.2.2.1, .int now.2.2.2.1, .int now.2.2.2.2])), (nx, .inl (cI, 10, .inl now.1)), (ny, .inl (cI, 10, .inl now.2.1))]) (run_V (As := [.ref hR]) (rest := []) C (c_X0_startFrom l D cI cZ hT hR t r) (cwV 1 hts gX2_helpAt_X0_startFrom rfl rfl rfl (by decide +kernel) ⟨Nat.le_of_ble_eq_true rfl, Nat.le_of_ble_eq_true rfl⟩) hK (hP.sub (ws' := [(hT, .inr (0, rdv t)), (hR, .inr (0, rdv r))]) [5, 4] rfl) (hD.sub (ws' := [(hT, .inr (0, rdv t)), (hR, .inr (0, rdv r))]) [5, 4] (by decide) rfl) 0 0 rfl rfl rfl rfl hl.1 rfl (Nat.le_of_ble_eq_true rfl) dX2_helpAt_8 (Nat.zero_le _) (Nat.zero_le _)) hP hD hS hA [5, 4] [0, 1, 2, 3] rfl rfl (by decide) (by decide) (fun u H locs hw hP hD hS => ?_)
  subst hw
  have hP : va_P D classes [(h0, .inr (2, [.ref hn, .ref hi0, .ref hi1, .int kp, .ref hR, .ref hT])), (hn, .inr (1, [.ref nx, .ref ny, .int now.2.2.1, .int now.2.2.2.1, .int now.2.2.2.2])), (nx, .inl (cI, 10, .inl now.1)), (ny, .inl (cI, 10, .inl now.2.1)), (hT, .inr (0, rdv (F_X0_startFrom t r))), (hR, .inr (0, rdv r))] H := hP
  have hD : va_D A [(h0, .inr (2, [.ref hn, .ref hi0, .ref hi1, .int kp, .ref hR, .ref hT])), (hn, .inr (1, [.ref nx, .ref ny, .int now.2.2.1, .int now.2.2.2.1, .int now.2.2.2.2])), (nx, .inl (cI, 10, .inl now.1)), (ny, .inl (cI, 10, .inl now.2.1)), (hT, .inr (0, rdv (F_X0_startFrom t r))), (hR, .inr (0, rdv r))] := hD
  refine lv_aload_n hx hb dX2_helpAt_11 rfl (lv_at hl 0 rfl) ?_
  refine va_get (D := D) (ci := 2) (v := .ref hT) (C := RX2) (T := TX2) (N := 6) hx hb hts iX2_helpAt_X2 hown hK.1 hP 0 rfl rfl 5 (by decide) (hts (.fieldLink RX2 33 "CompassBias" "trial" "LCompassBias$Round;") (List.mem_of_getElem? (i := 1) rfl)) (fun _ h9 => h9) rfl dX2_helpAt_12 ?_
  refine lv_iload_n hx hb dX2_helpAt_15 rfl (lv_at hl 1 rfl) ?_
  refine lv_iload_n hx hb dX2_helpAt_16 rfl (lv_at hl 2 rfl) ?_
  refine aft_v (wr := [(h0, .inr (2, [.ref hn, .ref hi0, .ref hi1, .int kp, .ref hR, .ref hT])), (hn, .inr (1, [.ref nx, .ref ny, .int now.2.2.1, .int now.2.2.2.1, .int now.2.2.2.2])), (nx, .inl (cI, 10, .inl now.1)), (ny, .inl (cI, 10, .inl now.2.1)), (hR, .inr (0, rdv r))]) (run_V (As := [.int p0, .int p1]) (rest := []) C (c_X0_include l D cI cZ hT (F_X0_startFrom t r) p0 p1) (cwV 2 hts gX2_helpAt_X0_include rfl rfl rfl (by decide +kernel) ⟨Nat.le_of_ble_eq_true rfl, Nat.le_of_ble_eq_true rfl⟩) hK (hP.sub (ws' := [(hT, .inr (0, rdv (F_X0_startFrom t r)))]) [4] rfl) (hD.sub (ws' := [(hT, .inr (0, rdv (F_X0_startFrom t r)))]) [4] (by decide) rfl) 0 0 rfl rfl rfl rfl hl.1 rfl (Nat.le_of_ble_eq_true rfl) dX2_helpAt_17 (Nat.zero_le _) (Nat.zero_le _)) hP hD hS hA [4] [0, 1, 2, 3, 5] rfl rfl (by decide) (by decide) (fun u H locs hw hP hD hS => ?_)
  subst hw
  have hP : va_P D classes [(h0, .inr (2, [.ref hn, .ref hi0, .ref hi1, .int kp, .ref hR, .ref hT])), (hn, .inr (1, [.ref nx, .ref ny, .int now.2.2.1, .int now.2.2.2.1, .int now.2.2.2.2])), (nx, .inl (cI, 10, .inl now.1)), (ny, .inl (cI, 10, .inl now.2.1)), (hR, .inr (0, rdv r)), (hT, .inr (0, rdv (F_X0_include (F_X0_startFrom t r) p0 p1)))] H := hP
  have hD : va_D A [(h0, .inr (2, [.ref hn, .ref hi0, .ref hi1, .int kp, .ref hR, .ref hT])), (hn, .inr (1, [.ref nx, .ref ny, .int now.2.2.1, .int now.2.2.2.1, .int now.2.2.2.2])), (nx, .inl (cI, 10, .inl now.1)), (ny, .inl (cI, 10, .inl now.2.1)), (hR, .inr (0, rdv r)), (hT, .inr (0, rdv (F_X0_include (F_X0_startFrom t r) p0 p1)))] := hD
  refine lv_aload_n hx hb dX2_helpAt_20 rfl (lv_at hl 0 rfl) ?_
  refine va_get (D := D) (ci := 2) (v := .ref hT) (C := RX2) (T := TX2) (N := 6) hx hb hts iX2_helpAt_X2 hown hK.1 hP 0 rfl rfl 5 (by decide) (hts (.fieldLink RX2 33 "CompassBias" "trial" "LCompassBias$Round;") (List.mem_of_getElem? (i := 1) rfl)) (fun _ h9 => h9) rfl dX2_helpAt_21 ?_
  refine aft_v (wr := [(h0, .inr (2, [.ref hn, .ref hi0, .ref hi1, .int kp, .ref hR, .ref hT])), (hn, .inr (1, [.ref nx, .ref ny, .int now.2.2.1, .int now.2.2.2.1, .int now.2.2.2.2])), (nx, .inl (cI, 10, .inl now.1)), (ny, .inl (cI, 10, .inl now.2.1)), (hR, .inr (0, rdv r))]) (run_V (As := []) (rest := []) C (c_X0_lay l D cI cZ hT (F_X0_include (F_X0_startFrom t r) p0 p1)) (cwV 0 hts gX2_helpAt_X0_lay rfl rfl rfl (by decide +kernel) ⟨Nat.le_of_ble_eq_true rfl, Nat.le_of_ble_eq_true rfl⟩) hK (hP.sub (ws' := [(hT, .inr (0, rdv (F_X0_include (F_X0_startFrom t r) p0 p1)))]) [5] rfl) (hD.sub (ws' := [(hT, .inr (0, rdv (F_X0_include (F_X0_startFrom t r) p0 p1)))]) [5] (by decide) rfl) 0 0 rfl rfl rfl rfl hl.1 rfl (Nat.le_of_ble_eq_true rfl) dX2_helpAt_24 (Nat.zero_le _) (Nat.zero_le _)) hP hD hS hA [5] [0, 1, 2, 3, 4] rfl rfl (by decide) (by decide) (fun u H locs hw hP hD hS => ?_)
  subst hw
  have hP : va_P D classes [(h0, .inr (2, [.ref hn, .ref hi0, .ref hi1, .int kp, .ref hR, .ref hT])), (hn, .inr (1, [.ref nx, .ref ny, .int now.2.2.1, .int now.2.2.2.1, .int now.2.2.2.2])), (nx, .inl (cI, 10, .inl now.1)), (ny, .inl (cI, 10, .inl now.2.1)), (hR, .inr (0, rdv r)), (hT, .inr (0, rdv (F_X0_lay (F_X0_include (F_X0_startFrom t r) p0 p1))))] H := hP
  have hD : va_D A [(h0, .inr (2, [.ref hn, .ref hi0, .ref hi1, .int kp, .ref hR, .ref hT])), (hn, .inr (1, [.ref nx, .ref ny, .int now.2.2.1, .int now.2.2.2.1, .int now.2.2.2.2])), (nx, .inl (cI, 10, .inl now.1)), (ny, .inl (cI, 10, .inl now.2.1)), (hR, .inr (0, rdv r)), (hT, .inr (0, rdv (F_X0_lay (F_X0_include (F_X0_startFrom t r) p0 p1))))] := hD
  refine lv_aload_n hx hb dX2_helpAt_27 rfl (lv_at hl 0 rfl) ?_
  refine va_get (D := D) (ci := 2) (v := .ref hT) (C := RX2) (T := TX2) (N := 6) hx hb hts iX2_helpAt_X2 hown hK.1 hP 0 rfl rfl 5 (by decide) (hts (.fieldLink RX2 33 "CompassBias" "trial" "LCompassBias$Round;") (List.mem_of_getElem? (i := 1) rfl)) (fun _ h9 => h9) rfl dX2_helpAt_28 ?_
  refine aft_i (wr := [(h0, .inr (2, [.ref hn, .ref hi0, .ref hi1, .int kp, .ref hR, .ref hT])), (hn, .inr (1, [.ref nx, .ref ny, .int now.2.2.1, .int now.2.2.2.1, .int now.2.2.2.2])), (nx, .inl (cI, 10, .inl now.1)), (ny, .inl (cI, 10, .inl now.2.1)), (hR, .inr (0, rdv r))]) (run_V (As := []) (rest := []) C (c_X0_isFlat l D cI cZ hT (F_X0_lay (F_X0_include (F_X0_startFrom t r) p0 p1))) (cwV 0 hts gX2_helpAt_X0_isFlat rfl rfl rfl (by decide +kernel) ⟨Nat.le_of_ble_eq_true rfl, Nat.le_of_ble_eq_true rfl⟩) hK (hP.sub (ws' := [(hT, .inr (0, rdv (F_X0_lay (F_X0_include (F_X0_startFrom t r) p0 p1))))]) [5] rfl) (hD.sub (ws' := [(hT, .inr (0, rdv (F_X0_lay (F_X0_include (F_X0_startFrom t r) p0 p1))))]) [5] (by decide) rfl) 0 0 rfl rfl rfl rfl hl.1 rfl (Nat.le_of_ble_eq_true rfl) dX2_helpAt_31 (Nat.zero_le _) (Nat.zero_le _)) hP hD hS hA [5] [0, 1, 2, 3, 4] rfl rfl (by decide) (by decide) (fun r u H locs hw hP hD hS => ?_)
  subst hw
  have hP : va_P D classes [(h0, .inr (2, [.ref hn, .ref hi0, .ref hi1, .int kp, .ref hR, .ref hT])), (hn, .inr (1, [.ref nx, .ref ny, .int now.2.2.1, .int now.2.2.2.1, .int now.2.2.2.2])), (nx, .inl (cI, 10, .inl now.1)), (ny, .inl (cI, 10, .inl now.2.1)), (hR, .inr (0, rdv r)), (hT, .inr (0, rdv (F_X0_lay (F_X0_include (F_X0_startFrom t r) p0 p1))))] H := hP
  have hD : va_D A [(h0, .inr (2, [.ref hn, .ref hi0, .ref hi1, .int kp, .ref hR, .ref hT])), (hn, .inr (1, [.ref nx, .ref ny, .int now.2.2.1, .int now.2.2.2.1, .int now.2.2.2.2])), (nx, .inl (cI, 10, .inl now.1)), (ny, .inl (cI, 10, .inl now.2.1)), (hR, .inr (0, rdv r)), (hT, .inr (0, rdv (F_X0_lay (F_X0_include (F_X0_startFrom t r) p0 p1))))] := hD
  refine lv_if_eq (tgt := 39) hx hb dX2_helpAt_34 (by decide) (fun c_34 => ?_) (fun c_34 => ?_)
  · refine lv_aload_n hx hb dX2_helpAt_39 rfl (lv_at hl 0 rfl) ?_
    refine va_get (D := D) (ci := 2) (v := .ref hT) (C := RX2) (T := TX2) (N := 6) hx hb hts iX2_helpAt_X2 hown hK.1 hP 0 rfl rfl 5 (by decide) (hts (.fieldLink RX2 33 "CompassBias" "trial" "LCompassBias$Round;") (List.mem_of_getElem? (i := 1) rfl)) (fun _ h9 => h9) rfl dX2_helpAt_40 ?_
    refine lv_iload_n hx hb dX2_helpAt_43 rfl (lv_at hl 1 rfl) ?_
    refine lv_iload_n hx hb dX2_helpAt_44 rfl (lv_at hl 2 rfl) ?_
    refine aft_i (wr := [(h0, .inr (2, [.ref hn, .ref hi0, .ref hi1, .int kp, .ref hR, .ref hT])), (hn, .inr (1, [.ref nx, .ref ny, .int now.2.2.1, .int now.2.2.2.1, .int now.2.2.2.2])), (nx, .inl (cI, 10, .inl now.1)), (ny, .inl (cI, 10, .inl now.2.1)), (hR, .inr (0, rdv r))]) (run_V (As := [.int p0, .int p1]) (rest := []) C (c_X0_eighthAt l D cI cZ hT (F_X0_lay (F_X0_include (F_X0_startFrom t r) p0 p1)) p0 p1) (cwV 2 hts gX2_helpAt_X0_eighthAt rfl rfl rfl (by decide +kernel) ⟨Nat.le_of_ble_eq_true rfl, Nat.le_of_ble_eq_true rfl⟩) hK (hP.sub (ws' := [(hT, .inr (0, rdv (F_X0_lay (F_X0_include (F_X0_startFrom t r) p0 p1))))]) [5] rfl) (hD.sub (ws' := [(hT, .inr (0, rdv (F_X0_lay (F_X0_include (F_X0_startFrom t r) p0 p1))))]) [5] (by decide) rfl) 0 0 rfl rfl rfl rfl hl.1 rfl (Nat.le_of_ble_eq_true rfl) dX2_helpAt_45 (Nat.zero_le _) (Nat.zero_le _)) hP hD hS hA [5] [0, 1, 2, 3, 4] rfl rfl (by decide) (by decide) (fun r u H locs hw hP hD hS => ?_)
    subst hw
    have hP : va_P D classes [(h0, .inr (2, [.ref hn, .ref hi0, .ref hi1, .int kp, .ref hR, .ref hT])), (hn, .inr (1, [.ref nx, .ref ny, .int now.2.2.1, .int now.2.2.2.1, .int now.2.2.2.2])), (nx, .inl (cI, 10, .inl now.1)), (ny, .inl (cI, 10, .inl now.2.1)), (hR, .inr (0, rdv r)), (hT, .inr (0, rdv (F_X0_lay (F_X0_include (F_X0_startFrom t r) p0 p1))))] H := hP
    have hD : va_D A [(h0, .inr (2, [.ref hn, .ref hi0, .ref hi1, .int kp, .ref hR, .ref hT])), (hn, .inr (1, [.ref nx, .ref ny, .int now.2.2.1, .int now.2.2.2.1, .int now.2.2.2.2])), (nx, .inl (cI, 10, .inl now.1)), (ny, .inl (cI, 10, .inl now.2.1)), (hR, .inr (0, rdv r)), (hT, .inr (0, rdv (F_X0_lay (F_X0_include (F_X0_startFrom t r) p0 p1))))] := hD
    refine aft_i (wr := [(h0, .inr (2, [.ref hn, .ref hi0, .ref hi1, .int kp, .ref hR, .ref hT])), (hn, .inr (1, [.ref nx, .ref ny, .int now.2.2.1, .int now.2.2.2.1, .int now.2.2.2.2])), (nx, .inl (cI, 10, .inl now.1)), (ny, .inl (cI, 10, .inl now.2.1)), (hR, .inr (0, rdv r)), (hT, .inr (0, rdv (F_X0_lay (F_X0_include (F_X0_startFrom t r) p0 p1))))]) (run_S (As := [.int (F_X0_eighthAt (F_X0_lay (F_X0_include (F_X0_startFrom t r) p0 p1)) p0 p1)]) (rest := []) C (c_X2_setOfEighth l D cI cZ (F_X0_eighthAt (F_X0_lay (F_X0_include (F_X0_startFrom t r) p0 p1)) p0 p1)) (va_cwS 1 hts gX2_helpAt_X2_setOfEighth rfl rfl rfl (by decide +kernel) ⟨Nat.le_of_ble_eq_true rfl, Nat.le_of_ble_eq_true rfl⟩) hK (hP.sub (ws' := []) [] rfl) (hD.sub (ws' := []) [] (by decide) rfl) rfl hl.1 rfl (Nat.le_of_ble_eq_true rfl) dX2_helpAt_48 (Nat.zero_le _) (Nat.zero_le _)) hP hD hS hA [] [0, 1, 2, 3, 4, 5] rfl rfl (by decide) (by decide) (fun r u H locs hw hP hD hS => ?_)
    subst hw
    have hP : va_P D classes [(h0, .inr (2, [.ref hn, .ref hi0, .ref hi1, .int kp, .ref hR, .ref hT])), (hn, .inr (1, [.ref nx, .ref ny, .int now.2.2.1, .int now.2.2.2.1, .int now.2.2.2.2])), (nx, .inl (cI, 10, .inl now.1)), (ny, .inl (cI, 10, .inl now.2.1)), (hR, .inr (0, rdv r)), (hT, .inr (0, rdv (F_X0_lay (F_X0_include (F_X0_startFrom t r) p0 p1))))] H := hP
    have hD : va_D A [(h0, .inr (2, [.ref hn, .ref hi0, .ref hi1, .int kp, .ref hR, .ref hT])), (hn, .inr (1, [.ref nx, .ref ny, .int now.2.2.1, .int now.2.2.2.1, .int now.2.2.2.2])), (nx, .inl (cI, 10, .inl now.1)), (ny, .inl (cI, 10, .inl now.2.1)), (hR, .inr (0, rdv r)), (hT, .inr (0, rdv (F_X0_lay (F_X0_include (F_X0_startFrom t r) p0 p1))))] := hD
    refine lv_istore (lv' := [(4, .int (F_X2_setOfEighth (F_X0_eighthAt (F_X0_lay (F_X0_include (F_X0_startFrom t r) p0 p1)) p0 p1))), (0, .ref h0), (1, .int p0), (2, .int p1), (3, .int p2)]) hx hb dX2_helpAt_51 hl (by decide) rfl (fun ls hl => ?_)
    refine lv_iload hx hb dX2_helpAt_53 (lv_at hl 0 rfl) ?_
    refine lv_iload_n hx hb dX2_helpAt_55 rfl (lv_at hl 4 rfl) ?_
    refine lv_iconst (v := (-1)) hx hb dX2_helpAt_56 (by decide) ?_
    refine lv_ixor hx hb dX2_helpAt_57 ?_
    refine lv_iand hx hb dX2_helpAt_58 ?_
    refine lv_if_ne (tgt := 64) hx hb dX2_helpAt_59 (by decide) (fun c_59 => ?_) (fun c_59 => ?_)
    · refine lv_iload hx hb dX2_helpAt_64 (lv_at hl 0 rfl) ?_
      refine lv_aload_n hx hb dX2_helpAt_66 rfl (lv_at hl 1 rfl) ?_
      refine lv_aload_n hx hb dX2_helpAt_67 rfl (lv_at hl 1 rfl) ?_
      refine va_get (D := D) (ci := 2) (v := .ref hT) (C := RX2) (T := TX2) (N := 6) hx hb hts iX2_helpAt_X2 hown hK.1 hP 0 rfl rfl 5 (by decide) (hts (.fieldLink RX2 33 "CompassBias" "trial" "LCompassBias$Round;") (List.mem_of_getElem? (i := 1) rfl)) (fun _ h9 => h9) rfl dX2_helpAt_68 ?_
      refine aft_i (wr := [(hR, .inr (0, rdv r))]) (run_V (As := [.ref hT]) (rest := [.int (F_X2_setOfEighth (F_X0_eighthAt (F_X0_lay (F_X0_include (F_X0_startFrom t r) p0 p1)) p0 p1))]) C (c_X2_coverBy l D cI cZ h0 hT hn hi0 hi1 hR hT nx ny now kp (F_X0_lay (F_X0_include (F_X0_startFrom t r) p0 p1))) (cwV 1 hts gX2_helpAt_X2_coverBy rfl rfl rfl (by decide +kernel) ⟨Nat.le_of_ble_eq_true rfl, Nat.le_of_ble_eq_true rfl⟩) hK (hP.sub (ws' := [(h0, .inr (2, [.ref hn, .ref hi0, .ref hi1, .int kp, .ref hR, .ref hT])), (hn, .inr (1, [.ref nx, .ref ny, .int now.2.2.1, .int now.2.2.2.1, .int now.2.2.2.2])), (nx, .inl (cI, 10, .inl now.1)), (ny, .inl (cI, 10, .inl now.2.1)), (hT, .inr (0, rdv (F_X0_lay (F_X0_include (F_X0_startFrom t r) p0 p1))))]) [0, 1, 2, 3, 5] rfl) (hD.sub (ws' := [(h0, .inr (2, [.ref hn, .ref hi0, .ref hi1, .int kp, .ref hR, .ref hT])), (hn, .inr (1, [.ref nx, .ref ny, .int now.2.2.1, .int now.2.2.2.1, .int now.2.2.2.2])), (nx, .inl (cI, 10, .inl now.1)), (ny, .inl (cI, 10, .inl now.2.1)), (hT, .inr (0, rdv (F_X0_lay (F_X0_include (F_X0_startFrom t r) p0 p1))))]) [0, 1, 2, 3, 5] (by decide) rfl) 0 2 rfl rfl rfl rfl hl.1 rfl (Nat.le_of_ble_eq_true rfl) dX2_helpAt_71 (Nat.zero_le _) (Nat.zero_le _)) hP hD hS hA [0, 1, 2, 3, 5] [4] rfl rfl (by decide) (by decide) (fun r u H locs hw hP hD hS => ?_)
      subst hw
      have hP : va_P D classes [(hR, .inr (0, rdv r)), (h0, .inr (2, [.ref hn, .ref hi0, .ref hi1, .int kp, .ref hR, .ref hT])), (hn, .inr (1, [.ref nx, .ref ny, .int now.2.2.1, .int now.2.2.2.1, .int now.2.2.2.2])), (nx, .inl (cI, 10, .inl now.1)), (ny, .inl (cI, 10, .inl now.2.1)), (hT, .inr (0, rdv (F_X0_lay (F_X0_include (F_X0_startFrom t r) p0 p1))))] H := hP
      have hD : va_D A [(hR, .inr (0, rdv r)), (h0, .inr (2, [.ref hn, .ref hi0, .ref hi1, .int kp, .ref hR, .ref hT])), (hn, .inr (1, [.ref nx, .ref ny, .int now.2.2.1, .int now.2.2.2.1, .int now.2.2.2.2])), (nx, .inl (cI, 10, .inl now.1)), (ny, .inl (cI, 10, .inl now.2.1)), (hT, .inr (0, rdv (F_X0_lay (F_X0_include (F_X0_startFrom t r) p0 p1))))] := hD
      refine lv_ior hx hb dX2_helpAt_74 ?_
      refine aft_i (wr := [(hR, .inr (0, rdv r)), (h0, .inr (2, [.ref hn, .ref hi0, .ref hi1, .int kp, .ref hR, .ref hT])), (hn, .inr (1, [.ref nx, .ref ny, .int now.2.2.1, .int now.2.2.2.1, .int now.2.2.2.2])), (nx, .inl (cI, 10, .inl now.1)), (ny, .inl (cI, 10, .inl now.2.1)), (hT, .inr (0, rdv (F_X0_lay (F_X0_include (F_X0_startFrom t r) p0 p1))))]) (run_S (As := [.int ((F_X2_setOfEighth (F_X0_eighthAt (F_X0_lay (F_X0_include (F_X0_startFrom t r) p0 p1)) p0 p1)) ||| (F_X2_coverBy now (F_X0_lay (F_X0_include (F_X0_startFrom t r) p0 p1))))]) (rest := []) C (c_J6_bitCount_0f7a4 l D cI cZ ((F_X2_setOfEighth (F_X0_eighthAt (F_X0_lay (F_X0_include (F_X0_startFrom t r) p0 p1)) p0 p1)) ||| (F_X2_coverBy now (F_X0_lay (F_X0_include (F_X0_startFrom t r) p0 p1))))) (va_cwS 1 hts gX2_helpAt_J6_bitCount_0f7a4 rfl rfl rfl (by decide +kernel) ⟨Nat.le_of_ble_eq_true rfl, Nat.le_of_ble_eq_true rfl⟩) hK (hP.sub (ws' := []) [] rfl) (hD.sub (ws' := []) [] (by decide) rfl) rfl hl.1 rfl (Nat.le_of_ble_eq_true rfl) dX2_helpAt_75 (Nat.zero_le _) (Nat.zero_le _)) hP hD hS hA [] [0, 1, 2, 3, 4, 5] rfl rfl (by decide) (by decide) (fun r u H locs hw hP hD hS => ?_)
      subst hw
      have hP : va_P D classes [(hR, .inr (0, rdv r)), (h0, .inr (2, [.ref hn, .ref hi0, .ref hi1, .int kp, .ref hR, .ref hT])), (hn, .inr (1, [.ref nx, .ref ny, .int now.2.2.1, .int now.2.2.2.1, .int now.2.2.2.2])), (nx, .inl (cI, 10, .inl now.1)), (ny, .inl (cI, 10, .inl now.2.1)), (hT, .inr (0, rdv (F_X0_lay (F_X0_include (F_X0_startFrom t r) p0 p1))))] H := hP
      have hD : va_D A [(hR, .inr (0, rdv r)), (h0, .inr (2, [.ref hn, .ref hi0, .ref hi1, .int kp, .ref hR, .ref hT])), (hn, .inr (1, [.ref nx, .ref ny, .int now.2.2.1, .int now.2.2.2.1, .int now.2.2.2.2])), (nx, .inl (cI, 10, .inl now.1)), (ny, .inl (cI, 10, .inl now.2.1)), (hT, .inr (0, rdv (F_X0_lay (F_X0_include (F_X0_startFrom t r) p0 p1))))] := hD
      refine lv_istore (lv' := [(5, .int (F_J6_bitCount_0f7a4 ((F_X2_setOfEighth (F_X0_eighthAt (F_X0_lay (F_X0_include (F_X0_startFrom t r) p0 p1)) p0 p1)) ||| (F_X2_coverBy now (F_X0_lay (F_X0_include (F_X0_startFrom t r) p0 p1)))))), (4, .int (F_X2_setOfEighth (F_X0_eighthAt (F_X0_lay (F_X0_include (F_X0_startFrom t r) p0 p1)) p0 p1))), (0, .ref h0), (1, .int p0), (2, .int p1), (3, .int p2)]) hx hb dX2_helpAt_78 hl (by decide) rfl (fun ls hl => ?_)
      refine lv_iload hx hb dX2_helpAt_80 (lv_at hl 0 rfl) ?_
      refine lv_aload_n hx hb dX2_helpAt_82 rfl (lv_at hl 2 rfl) ?_
      refine va_get (D := D) (ci := 2) (v := .ref hn) (C := RX2) (T := TX2) (N := 6) hx hb hts iX2_helpAt_X2 hown hK.1 hP 1 rfl rfl 0 (by decide) (hts (.fieldLink RX2 12 "CompassBias" "now" "LCompassBias$Samples;") (List.mem_of_getElem? (i := 3) rfl)) (fun _ h9 => h9) rfl dX2_helpAt_83 ?_
      refine va_get (D := D) (ci := 1) (v := .int now.2.2.2.2) (C := RX1) (T := TX1) (N := 5) hx hb hts iX2_helpAt_X1 hown hK.1 hP 2 rfl rfl 4 (by decide) (hts (.fieldLink RX2 122 "CompassBias$Samples" "needed" "I") (List.mem_of_getElem? (i := 4) rfl)) (fun _ h9 => h9) rfl dX2_helpAt_86 ?_
      refine lv_icmp_lt (tgt := 97) hx hb dX2_helpAt_89 (by decide) (fun c_89 => ?_) (fun c_89 => ?_)
      · refine lv_iconst (v := 0) hx hb dX2_helpAt_97 (by decide) ?_
        exact ret_i C (F_X0_lay (F_X0_include (F_X0_startFrom t r) p0 p1)) ((if_pos c_34).trans ((if_neg c_59).trans ((if_pos c_89)))) (hP.sub (ws' := [(h0, .inr (2, [.ref hn, .ref hi0, .ref hi1, .int kp, .ref hR, .ref hT])), (hn, .inr (1, [.ref nx, .ref ny, .int now.2.2.1, .int now.2.2.2.1, .int now.2.2.2.2])), (nx, .inl (cI, 10, .inl now.1)), (ny, .inl (cI, 10, .inl now.2.1)), (hR, .inr (0, rdv r)), (hT, .inr (0, rdv (F_X0_lay (F_X0_include (F_X0_startFrom t r) p0 p1))))]) [1, 2, 3, 4, 0, 5] rfl) (hD.sub (ws' := [(h0, .inr (2, [.ref hn, .ref hi0, .ref hi1, .int kp, .ref hR, .ref hT])), (hn, .inr (1, [.ref nx, .ref ny, .int now.2.2.1, .int now.2.2.2.1, .int now.2.2.2.2])), (nx, .inl (cI, 10, .inl now.1)), (ny, .inl (cI, 10, .inl now.2.1)), (hR, .inr (0, rdv r)), (hT, .inr (0, rdv (F_X0_lay (F_X0_include (F_X0_startFrom t r) p0 p1))))]) [1, 2, 3, 4, 0, 5] (by decide) rfl) hS dX2_helpAt_98
      · refine lv_iload hx hb dX2_helpAt_92 (lv_at hl 1 rfl) ?_
        refine lv_goto (tgt := 98) hx hb dX2_helpAt_94 (by decide) ?_
        exact ret_i C (F_X0_lay (F_X0_include (F_X0_startFrom t r) p0 p1)) ((if_pos c_34).trans ((if_neg c_59).trans ((if_neg c_89)))) (hP.sub (ws' := [(h0, .inr (2, [.ref hn, .ref hi0, .ref hi1, .int kp, .ref hR, .ref hT])), (hn, .inr (1, [.ref nx, .ref ny, .int now.2.2.1, .int now.2.2.2.1, .int now.2.2.2.2])), (nx, .inl (cI, 10, .inl now.1)), (ny, .inl (cI, 10, .inl now.2.1)), (hR, .inr (0, rdv r)), (hT, .inr (0, rdv (F_X0_lay (F_X0_include (F_X0_startFrom t r) p0 p1))))]) [1, 2, 3, 4, 0, 5] rfl) (hD.sub (ws' := [(h0, .inr (2, [.ref hn, .ref hi0, .ref hi1, .int kp, .ref hR, .ref hT])), (hn, .inr (1, [.ref nx, .ref ny, .int now.2.2.1, .int now.2.2.2.1, .int now.2.2.2.2])), (nx, .inl (cI, 10, .inl now.1)), (ny, .inl (cI, 10, .inl now.2.1)), (hR, .inr (0, rdv r)), (hT, .inr (0, rdv (F_X0_lay (F_X0_include (F_X0_startFrom t r) p0 p1))))]) [1, 2, 3, 4, 0, 5] (by decide) rfl) hS dX2_helpAt_98
    · refine lv_iconst (v := 0) hx hb dX2_helpAt_62 (by decide) ?_
      exact ret_i C (F_X0_lay (F_X0_include (F_X0_startFrom t r) p0 p1)) ((if_pos c_34).trans ((if_pos c_59))) hP hD hS dX2_helpAt_63
  · refine lv_iconst (v := 0) hx hb dX2_helpAt_37 (by decide) ?_
    exact ret_i C (F_X0_lay (F_X0_include (F_X0_startFrom t r) p0 p1)) (if_neg c_34) hP hD hS dX2_helpAt_38
def L_X2_isWithin_30 (now : Sm) (p0 : Int32) (p1 : Int32) : Nat → Int32 → Rd → Int32 × Rd
  | 0, _, _ => (0, (0, 0, 0, 0, 0, 0, 0, 0, 0, 0, 0, 0, 0))
  | n + 1, i, q => if 10 ≤ i then ((1, q)) else (if (F_X2_isIn p0 i) = 0 then (L_X2_isWithin_30 now p0 p1 n (i + 1) q) else (if (F_X2_isSizeAbove now q i p1) = 0 then (L_X2_isWithin_30 now p0 p1 n (i + 1) q) else ((0, q))))
def F_X2_isWithin (now : Sm) (t : Rd) (p0 : Int32) (p1 : Int32) : Int32 × Rd := if (F_X0_isFlat (F_X0_lay (F_X2_sumUp now t p0))) = 0 then (L_X2_isWithin_30 now p0 p1 11 0 (F_X0_lay (F_X2_sumUp now t p0))) else ((0, F_X0_lay (F_X2_sumUp now t p0)))
theorem iX2_isWithin_X2 : ∀ w ∈ u_ws RX2 TX2 6, w ∈ wsX2_isWithin := fun _ h => List.mem_cons_of_mem _ (List.mem_append_left _ (List.mem_append_left _ (List.mem_append_right _ (h))))
set_option maxHeartbeats 4000000 in
set_option maxRecDepth 100000 in
theorem c_X2_isWithin (l : Launch) (D : va_G) (cI cZ : ClassId) (h0 hn hi0 hi1 hR hT nx ny : Nat) (now : Sm) (kp : Int32) (t : Rd) (p0 : Int32) (p1 : Int32) : CTi l yX2_isWithin wsX2_isWithin ({ frames := 4, cells := 0, slots := 0, locals := 88 } : Room) D cI cZ [.ref h0, .int p0, .int p1] [(h0, .inr (2, [.ref hn, .ref hi0, .ref hi1, .int kp, .ref hR, .ref hT])), (hn, .inr (1, [.ref nx, .ref ny, .int now.2.2.1, .int now.2.2.2.1, .int now.2.2.2.2])), (nx, .inl (cI, 10, .inl now.1)), (ny, .inl (cI, 10, .inl now.2.1)), (hT, .inr (0, rdv t))] (S := Rd) (fun z9 u9 => F_X2_isWithin now t p0 p1 = (z9, u9)) (fun u => [(h0, .inr (2, [.ref hn, .ref hi0, .ref hi1, .int kp, .ref hR, .ref hT])), (hn, .inr (1, [.ref nx, .ref ny, .int now.2.2.1, .int now.2.2.2.1, .int now.2.2.2.2])), (nx, .inl (cI, 10, .inl now.1)), (ny, .inl (cI, 10, .inl now.2.1)), (hT, .inr (0, rdv u))]) := by
  refine enterM (cc := cX2_isWithin) (maxL := 4) (ret := (some .boolean)) (own := RX2) (Qc := fun A => va_Qi (S := Rd) (fun z9 u9 => F_X2_isWithin now t p0 p1 = (z9, u9)) (PoB (S := Rd) D A (fun u => [(h0, .inr (2, [.ref hn, .ref hi0, .ref hi1, .int kp, .ref hR, .ref hT])), (hn, .inr (1, [.ref nx, .ref ny, .int now.2.2.1, .int now.2.2.2.1, .int now.2.2.2.2])), (nx, .inl (cI, 10, .inl now.1)), (ny, .inl (cI, 10, .inl now.2.1)), (hT, .inr (0, rdv u))])) A) (by decide) rfl rfl (Nat.le_of_ble_eq_true rfl) ?_
  intro p e s m below meth c A ls C hK hA hP hD hS hl
  have hx := C.1
  have hb := C.2.1
  have hown := C.2.2.2.1
  have hts := C.2.2.2.2.1
  have _huse := hts
  have K30 : ∀ (n : Nat) (k : Nat) (i : Int32) (q : Rd) (_ : i.toInt = (k : Int)) (_ : k ≤ 10) (_ : 10 < k + n) (X : Int32 × Rd) (_ : X = L_X2_isWithin_30 now p0 p1 n i q) (H : Heap) (locs : List Loc) (_ : va_P D classes [(h0, .inr (2, [.ref hn, .ref hi0, .ref hi1, .int kp, .ref hR, .ref hT])), (hn, .inr (1, [.ref nx, .ref ny, .int now.2.2.1, .int now.2.2.2.1, .int now.2.2.2.2])), (nx, .inl (cI, 10, .inl now.1)), (ny, .inl (cI, 10, .inl now.2.1)), (hT, .inr (0, rdv q))] H) (_ : va_D A [(h0, .inr (2, [.ref hn, .ref hi0, .ref hi1, .int kp, .ref hR, .ref hT])), (hn, .inr (1, [.ref nx, .ref ny, .int now.2.2.1, .int now.2.2.2.1, .int now.2.2.2.2])), (nx, .inl (cI, 10, .inl now.1)), (ny, .inl (cI, 10, .inl now.2.1)), (hT, .inr (0, rdv q))]) (_ : va_S A s.heap H locs) (ls : Array Slot) (_ : lv_has ls 4 [(0, .ref h0), (1, .int p0), (2, .int p1), (3, .int i)]), W p l e ({ frames := 4, cells := 0, slots := 0, locals := 88 } : Room) s m [.ref h0, .int p0, .int p1].toArray below meth c H locs 0 0 (MQ below (va_Qi (S := Rd) (fun z9 u9 => X = (z9, u9)) (PoB (S := Rd) D A (fun u => [(h0, .inr (2, [.ref hn, .ref hi0, .ref hi1, .int kp, .ref hR, .ref hT])), (hn, .inr (1, [.ref nx, .ref ny, .int now.2.2.1, .int now.2.2.2.1, .int now.2.2.2.2])), (nx, .inl (cI, 10, .inl now.1)), (ny, .inl (cI, 10, .inl now.2.1)), (hT, .inr (0, rdv u))])) A) [.ref h0, .int p0, .int p1].toArray s 0 0 A) (F0 m 30 ls []) := by
    intro n
    induction n with
    | zero =>
      intro k i q hi hk hfu X hX H locs hP hD hS ls hl
      exact absurd hfu (by omega)
    | succ n ih =>
      intro k i q hi hk hfu X hX H locs hP hD hS ls hl
      refine lv_iload_n hx hb dX2_isWithin_30 rfl (lv_at hl 3 rfl) ?_
      refine lv_bipush (v := 10) hx hb dX2_isWithin_31 (by decide) ?_
      refine lv_icmp_ge (tgt := 65) hx hb dX2_isWithin_33 (by decide) (fun c_33 => ?_) (fun c_33 => ?_)
      · refine lv_iconst (v := 1) hx hb dX2_isWithin_65 (by decide) ?_
        exact ret_z C (Or.inr rfl) q (hX.trans ((if_pos c_33))) hP hD hS dX2_isWithin_66
      · refine lv_iload_n hx hb dX2_isWithin_36 rfl (lv_at hl 1 rfl) ?_
        refine lv_iload_n hx hb dX2_isWithin_37 rfl (lv_at hl 3 rfl) ?_
        refine aft_i (wr := [(h0, .inr (2, [.ref hn, .ref hi0, .ref hi1, .int kp, .ref hR, .ref hT])), (hn, .inr (1, [.ref nx, .ref ny, .int now.2.2.1, .int now.2.2.2.1, .int now.2.2.2.2])), (nx, .inl (cI, 10, .inl now.1)), (ny, .inl (cI, 10, .inl now.2.1)), (hT, .inr (0, rdv q))]) (run_S (As := [.int p0, .int i]) (rest := []) C (c_X2_isIn l D cI cZ p0 i) (va_cwS 2 hts gX2_isWithin_X2_isIn rfl rfl rfl (by decide +kernel) ⟨Nat.le_of_ble_eq_true rfl, Nat.le_of_ble_eq_true rfl⟩) hK (hP.sub (ws' := []) [] rfl) (hD.sub (ws' := []) [] (by decide) rfl) rfl hl.1 rfl (Nat.le_of_ble_eq_true rfl) dX2_isWithin_38 (Nat.zero_le _) (Nat.zero_le _)) hP hD hS hA [] [0, 1, 2, 3, 4] rfl rfl (by decide) (by decide) (fun r u H locs hw hP hD hS => ?_)
        subst hw
        have hP : va_P D classes [(h0, .inr (2, [.ref hn, .ref hi0, .ref hi1, .int kp, .ref hR, .ref hT])), (hn, .inr (1, [.ref nx, .ref ny, .int now.2.2.1, .int now.2.2.2.1, .int now.2.2.2.2])), (nx, .inl (cI, 10, .inl now.1)), (ny, .inl (cI, 10, .inl now.2.1)), (hT, .inr (0, rdv q))] H := hP
        have hD : va_D A [(h0, .inr (2, [.ref hn, .ref hi0, .ref hi1, .int kp, .ref hR, .ref hT])), (hn, .inr (1, [.ref nx, .ref ny, .int now.2.2.1, .int now.2.2.2.1, .int now.2.2.2.2])), (nx, .inl (cI, 10, .inl now.1)), (ny, .inl (cI, 10, .inl now.2.1)), (hT, .inr (0, rdv q))] := hD
        refine lv_if_eq (tgt := 59) hx hb dX2_isWithin_41 (by decide) (fun c_41 => ?_) (fun c_41 => ?_)
        · refine lv_iinc (v := i + 1) (lv' := [(3, .int (i + 1)), (0, .ref h0), (1, .int p0), (2, .int p1)]) hx hb dX2_isWithin_59 hl (k := 3) rfl rfl (by decide) rfl (fun ls hl => ?_)
          refine lv_goto (tgt := 30) hx hb dX2_isWithin_62 (by decide) ?_
          exact ih (k + 1) (i + 1) q (i_succ hi (by omega)) (i_lt10 hi c_33) (by omega) X (hX.trans ((if_neg c_33).trans ((if_pos c_41)))) _ _ hP hD hS _ (lv_sub hl [1, 2, 3, 0] rfl)
        · refine lv_aload_n hx hb dX2_isWithin_44 rfl (lv_at hl 0 rfl) ?_
          refine lv_aload_n hx hb dX2_isWithin_45 rfl (lv_at hl 0 rfl) ?_
          refine va_get (D := D) (ci := 2) (v := .ref hT) (C := RX2) (T := TX2) (N := 6) hx hb hts iX2_isWithin_X2 hown hK.1 hP 0 rfl rfl 5 (by decide) (hts (.fieldLink RX2 33 "CompassBias" "trial" "LCompassBias$Round;") (List.mem_of_getElem? (i := 1) rfl)) (fun _ h9 => h9) rfl dX2_isWithin_46 ?_
          refine lv_iload_n hx hb dX2_isWithin_49 rfl (lv_at hl 3 rfl) ?_
          refine lv_iload_n hx hb dX2_isWithin_50 rfl (lv_at hl 2 rfl) ?_
          refine aft_i (wr := []) (run_V (As := [.ref hT, .int i, .int p1]) (rest := []) C (c_X2_isSizeAbove l D cI cZ h0 hT hn hi0 hi1 hR hT nx ny now kp q i p1) (cwV 3 hts gX2_isWithin_X2_isSizeAbove rfl rfl rfl (by decide +kernel) ⟨Nat.le_of_ble_eq_true rfl, Nat.le_of_ble_eq_true rfl⟩) hK (hP.sub (ws' := [(h0, .inr (2, [.ref hn, .ref hi0, .ref hi1, .int kp, .ref hR, .ref hT])), (hn, .inr (1, [.ref nx, .ref ny, .int now.2.2.1, .int now.2.2.2.1, .int now.2.2.2.2])), (nx, .inl (cI, 10, .inl now.1)), (ny, .inl (cI, 10, .inl now.2.1)), (hT, .inr (0, rdv q))]) [0, 1, 2, 3, 4] rfl) (hD.sub (ws' := [(h0, .inr (2, [.ref hn, .ref hi0, .ref hi1, .int kp, .ref hR, .ref hT])), (hn, .inr (1, [.ref nx, .ref ny, .int now.2.2.1, .int now.2.2.2.1, .int now.2.2.2.2])), (nx, .inl (cI, 10, .inl now.1)), (ny, .inl (cI, 10, .inl now.2.1)), (hT, .inr (0, rdv q))]) [0, 1, 2, 3, 4] (by decide) rfl) 0 2 rfl rfl rfl rfl hl.1 rfl (Nat.le_of_ble_eq_true rfl) dX2_isWithin_51 (Nat.zero_le _) (Nat.zero_le _)) hP hD hS hA [0, 1, 2, 3, 4] [] rfl rfl (by decide) (by decide) (fun r u H locs hw hP hD hS => ?_)
          subst hw
          have hP : va_P D classes [(h0, .inr (2, [.ref hn, .ref hi0, .ref hi1, .int kp, .ref hR, .ref hT])), (hn, .inr (1, [.ref nx, .ref ny, .int now.2.2.1, .int now.2.2.2.1, .int now.2.2.2.2])), (nx, .inl (cI, 10, .inl now.1)), (ny, .inl (cI, 10, .inl now.2.1)), (hT, .inr (0, rdv q))] H := hP
          have hD : va_D A [(h0, .inr (2, [.ref hn, .ref hi0, .ref hi1, .int kp, .ref hR, .ref hT])), (hn, .inr (1, [.ref nx, .ref ny, .int now.2.2.1, .int now.2.2.2.1, .int now.2.2.2.2])), (nx, .inl (cI, 10, .inl now.1)), (ny, .inl (cI, 10, .inl now.2.1)), (hT, .inr (0, rdv q))] := hD
          refine lv_if_eq (tgt := 59) hx hb dX2_isWithin_54 (by decide) (fun c_54 => ?_) (fun c_54 => ?_)
          · refine lv_iinc (v := i + 1) (lv' := [(3, .int (i + 1)), (0, .ref h0), (1, .int p0), (2, .int p1)]) hx hb dX2_isWithin_59 hl (k := 3) rfl rfl (by decide) rfl (fun ls hl => ?_)
            refine lv_goto (tgt := 30) hx hb dX2_isWithin_62 (by decide) ?_
            exact ih (k + 1) (i + 1) q (i_succ hi (by omega)) (i_lt10 hi c_33) (by omega) X (hX.trans ((if_neg c_33).trans ((if_neg c_41).trans ((if_pos c_54))))) _ _ hP hD hS _ (lv_sub hl [1, 2, 3, 0] rfl)
          · refine lv_iconst (v := 0) hx hb dX2_isWithin_57 (by decide) ?_
            exact ret_z C (Or.inl rfl) q (hX.trans ((if_neg c_33).trans ((if_neg c_41).trans ((if_neg c_54))))) hP hD hS dX2_isWithin_58
  have hl : lv_has ls 4 [(0, .ref h0), (1, .int p0), (2, .int p1)] := hl
  refine lv_aload_n hx hb dX2_isWithin_0 rfl (lv_at hl 0 rfl) ?_
  refine lv_aload_n hx hb dX2_isWithin_1 rfl (lv_at hl 0 rfl) ?_
  refine va_get (D := D) (ci := 2) (v := .ref hT) (C := RX2) (T := TX2) (N := 6) hx hb hts iX2_isWithin_X2 hown hK.1 hP 0 rfl rfl 5 (by decide) (hts (.fieldLink RX2 33 "CompassBias" "trial" "LCompassBias$Round;") (List.mem_of_getElem? (i := 1) rfl)) (fun _ h9 => h9) rfl dX2_isWithin_2 ?_
  refine lv_iload_n hx hb dX2_isWithin_5 rfl (lv_at hl 1 rfl) ?_
  refine aft_v (wr := []) (run_V (As := [.ref hT, .int p0]) (rest := []) C (c_X2_sumUp l D cI cZ h0 hT hn hi0 hi1 hR hT nx ny now kp t p0) (cwV 2 hts gX2_isWithin_X2_sumUp rfl rfl rfl (by decide +kernel) ⟨Nat.le_of_ble_eq_true rfl, Nat.le_of_ble_eq_true rfl⟩) hK (hP.sub (ws' := [(h0, .inr (2, [.ref hn, .ref hi0, .ref hi1, .int kp, .ref hR, .ref hT])), (hn, .inr (1, [.ref nx, .ref ny, .int now.2.2.1, .int now.2.2.2.1, .int now.2.2.2.2])), (nx, .inl (cI, 10, .inl now.1)), (ny, .inl (cI, 10, .inl now.2.1)), (hT, .inr (0, rdv t))]) [0, 1, 2, 3, 4] rfl) (hD.sub (ws' := [(h0, .inr (2, [.ref hn, .ref hi0, .ref hi1, .int kp, .ref hR, .ref hT])), (hn, .inr (1, [.ref nx, .ref ny, .int now.2.2.1, .int now.2.2.2.1, .int now.2.2.2.2])), (nx, .inl (cI, 10, .inl now.1)), (ny, .inl (cI, 10, .inl now.2.1)), (hT, .inr (0, rdv t))]) [0, 1, 2, 3, 4] (by decide) rfl) 0 2 rfl rfl rfl rfl hl.1 rfl (Nat.le_of_ble_eq_true rfl) dX2_isWithin_6 (Nat.zero_le _) (Nat.zero_le _)) hP hD hS hA [0, 1, 2, 3, 4] [] rfl rfl (by decide) (by decide) (fun u H locs hw hP hD hS => ?_)
  subst hw
  have hP : va_P D classes [(h0, .inr (2, [.ref hn, .ref hi0, .ref hi1, .int kp, .ref hR, .ref hT])), (hn, .inr (1, [.ref nx, .ref ny, .int now.2.2.1, .int now.2.2.2.1, .int now.2.2.2.2])), (nx, .inl (cI, 10, .inl now.1)), (ny, .inl (cI, 10, .inl now.2.1)), (hT, .inr (0, rdv (F_X2_sumUp now t p0)))] H := hP
  have hD : va_D A [(h0, .inr (2, [.ref hn, .ref hi0, .ref hi1, .int kp, .ref hR, .ref hT])), (hn, .inr (1, [.ref nx, .ref ny, .int now.2.2.1, .int now.2.2.2.1, .int now.2.2.2.2])), (nx, .inl (cI, 10, .inl now.1)), (ny, .inl (cI, 10, .inl now.2.1)), (hT, .inr (0, rdv (F_X2_sumUp now t p0)))] := hD
  refine lv_aload_n hx hb dX2_isWithin_9 rfl (lv_at hl 0 rfl) ?_
  refine va_get (D := D) (ci := 2) (v := .ref hT) (C := RX2) (T := TX2) (N := 6) hx hb hts iX2_isWithin_X2 hown hK.1 hP 0 rfl rfl 5 (by decide) (hts (.fieldLink RX2 33 "CompassBias" "trial" "LCompassBias$Round;") (List.mem_of_getElem? (i := 1) rfl)) (fun _ h9 => h9) rfl dX2_isWithin_10 ?_
  refine aft_v (wr := [(h0, .inr (2, [.ref hn, .ref hi0, .ref hi1, .int kp, .ref hR, .ref hT])), (hn, .inr (1, [.ref nx, .ref ny, .int now.2.2.1, .int now.2.2.2.1, .int now.2.2.2.2])), (nx, .inl (cI, 10, .inl now.1)), (ny, .inl (cI, 10, .inl now.2.1))]) (run_V (As := []) (rest := []) C (c_X0_lay l D cI cZ hT (F_X2_sumUp now t p0)) (cwV 0 hts gX2_isWithin_X0_lay rfl rfl rfl (by decide +kernel) ⟨Nat.le_of_ble_eq_true rfl, Nat.le_of_ble_eq_true rfl⟩) hK (hP.sub (ws' := [(hT, .inr (0, rdv (F_X2_sumUp now t p0)))]) [4] rfl) (hD.sub (ws' := [(hT, .inr (0, rdv (F_X2_sumUp now t p0)))]) [4] (by decide) rfl) 0 0 rfl rfl rfl rfl hl.1 rfl (Nat.le_of_ble_eq_true rfl) dX2_isWithin_13 (Nat.zero_le _) (Nat.zero_le _)) hP hD hS hA [4] [0, 1, 2, 3] rfl rfl (by decide) (by decide) (fun u H locs hw hP hD hS => ?_)
  subst hw
  have hP : va_P D classes [(h0, .inr (2, [.ref hn, .ref hi0, .ref hi1, .int kp, .ref hR, .ref hT])), (hn, .inr (1, [.ref nx, .ref ny, .int now.2.2.1, .int now.2.2.2.1, .int now.2.2.2.2])), (nx, .inl (cI, 10, .inl now.1)), (ny, .inl (cI, 10, .inl now.2.1)), (hT, .inr (0, rdv (F_X0_lay (F_X2_sumUp now t p0))))] H := hP
  have hD : va_D A [(h0, .inr (2, [.ref hn, .ref hi0, .ref hi1, .int kp, .ref hR, .ref hT])), (hn, .inr (1, [.ref nx, .ref ny, .int now.2.2.1, .int now.2.2.2.1, .int now.2.2.2.2])), (nx, .inl (cI, 10, .inl now.1)), (ny, .inl (cI, 10, .inl now.2.1)), (hT, .inr (0, rdv (F_X0_lay (F_X2_sumUp now t p0))))] := hD
  refine lv_aload_n hx hb dX2_isWithin_16 rfl (lv_at hl 0 rfl) ?_
  refine va_get (D := D) (ci := 2) (v := .ref hT) (C := RX2) (T := TX2) (N := 6) hx hb hts iX2_isWithin_X2 hown hK.1 hP 0 rfl rfl 5 (by decide) (hts (.fieldLink RX2 33 "CompassBias" "trial" "LCompassBias$Round;") (List.mem_of_getElem? (i := 1) rfl)) (fun _ h9 => h9) rfl dX2_isWithin_17 ?_
  refine aft_i (wr := [(h0, .inr (2, [.ref hn, .ref hi0, .ref hi1, .int kp, .ref hR, .ref hT])), (hn, .inr (1, [.ref nx, .ref ny, .int now.2.2.1, .int now.2.2.2.1, .int now.2.2.2.2])), (nx, .inl (cI, 10, .inl now.1)), (ny, .inl (cI, 10, .inl now.2.1))]) (run_V (As := []) (rest := []) C (c_X0_isFlat l D cI cZ hT (F_X0_lay (F_X2_sumUp now t p0))) (cwV 0 hts gX2_isWithin_X0_isFlat rfl rfl rfl (by decide +kernel) ⟨Nat.le_of_ble_eq_true rfl, Nat.le_of_ble_eq_true rfl⟩) hK (hP.sub (ws' := [(hT, .inr (0, rdv (F_X0_lay (F_X2_sumUp now t p0))))]) [4] rfl) (hD.sub (ws' := [(hT, .inr (0, rdv (F_X0_lay (F_X2_sumUp now t p0))))]) [4] (by decide) rfl) 0 0 rfl rfl rfl rfl hl.1 rfl (Nat.le_of_ble_eq_true rfl) dX2_isWithin_20 (Nat.zero_le _) (Nat.zero_le _)) hP hD hS hA [4] [0, 1, 2, 3] rfl rfl (by decide) (by decide) (fun r u H locs hw hP hD hS => ?_)
  subst hw
  have hP : va_P D classes [(h0, .inr (2, [.ref hn, .ref hi0, .ref hi1, .int kp, .ref hR, .ref hT])), (hn, .inr (1, [.ref nx, .ref ny, .int now.2.2.1, .int now.2.2.2.1, .int now.2.2.2.2])), (nx, .inl (cI, 10, .inl now.1)), (ny, .inl (cI, 10, .inl now.2.1)), (hT, .inr (0, rdv (F_X0_lay (F_X2_sumUp now t p0))))] H := hP
  have hD : va_D A [(h0, .inr (2, [.ref hn, .ref hi0, .ref hi1, .int kp, .ref hR, .ref hT])), (hn, .inr (1, [.ref nx, .ref ny, .int now.2.2.1, .int now.2.2.2.1, .int now.2.2.2.2])), (nx, .inl (cI, 10, .inl now.1)), (ny, .inl (cI, 10, .inl now.2.1)), (hT, .inr (0, rdv (F_X0_lay (F_X2_sumUp now t p0))))] := hD
  refine lv_if_eq (tgt := 28) hx hb dX2_isWithin_23 (by decide) (fun c_23 => ?_) (fun c_23 => ?_)
  · refine lv_iconst (v := 0) hx hb dX2_isWithin_28 (by decide) ?_
    refine lv_istore_n (lv' := [(3, .int 0), (0, .ref h0), (1, .int p0), (2, .int p1)]) hx hb dX2_isWithin_29 rfl hl (by decide) rfl (fun ls hl => ?_)
    exact K30 11 0 0 (F_X0_lay (F_X2_sumUp now t p0)) rfl (by omega) (by omega) (F_X2_isWithin now t p0 p1) (if_pos c_23) _ _ hP hD hS _ (lv_sub hl [1, 2, 3, 0] rfl)
  · refine lv_iconst (v := 0) hx hb dX2_isWithin_26 (by decide) ?_
    exact ret_z C (Or.inl rfl) (F_X0_lay (F_X2_sumUp now t p0)) (if_neg c_23) hP hD hS dX2_isWithin_27
def L_X2_leastSetToLeaveOut_2 (now : Sm) (p0 : Int32) (p1 : Int32) : Nat → Int32 → Rd → Int32 × Rd
  | 0, _, _ => (0, (0, 0, 0, 0, 0, 0, 0, 0, 0, 0, 0, 0, 0))
  | n + 1, i, q => if 1024 ≤ i then (((-6), q)) else (if (F_J6_bitCount_0f7a4 i) = p0 then (if (i &&& (now.2.2.2.1 ^^^ (-1))) = 0 then (if ((F_X2_isWithin now q (now.2.2.2.1 &&& (i ^^^ (-1))) p1).1) = 0 then (L_X2_leastSetToLeaveOut_2 now p0 p1 n (i + 1) ((F_X2_isWithin now q (now.2.2.2.1 &&& (i ^^^ (-1))) p1).2)) else ((i, (F_X2_isWithin now q (now.2.2.2.1 &&& (i ^^^ (-1))) p1).2))) else (L_X2_leastSetToLeaveOut_2 now p0 p1 n (i + 1) q)) else (L_X2_leastSetToLeaveOut_2 now p0 p1 n (i + 1) q))
def F_X2_leastSetToLeaveOut (now : Sm) (t : Rd) (p0 : Int32) (p1 : Int32) : Int32 × Rd := L_X2_leastSetToLeaveOut_2 now p0 p1 1025 0 t
theorem iX2_leastSetToLeaveOut_X1 : ∀ w ∈ u_ws RX1 TX1 5, w ∈ wsX2_leastSetToLeaveOut := fun _ h => List.mem_cons_of_mem _ (List.mem_append_left _ (List.mem_append_right _ (h)))
theorem iX2_leastSetToLeaveOut_X2 : ∀ w ∈ u_ws RX2 TX2 6, w ∈ wsX2_leastSetToLeaveOut := fun _ h => List.mem_cons_of_mem _ (List.mem_append_left _ (List.mem_append_left _ (List.mem_append_right _ (h))))
set_option maxHeartbeats 4000000 in
set_option maxRecDepth 100000 in
theorem c_X2_leastSetToLeaveOut (l : Launch) (D : va_G) (cI cZ : ClassId) (h0 hn hi0 hi1 hR hT nx ny : Nat) (now : Sm) (kp : Int32) (t : Rd) (p0 : Int32) (p1 : Int32) : CTi l yX2_leastSetToLeaveOut wsX2_leastSetToLeaveOut ({ frames := 5, cells := 0, slots := 0, locals := 111 } : Room) D cI cZ [.ref h0, .int p0, .int p1] [(h0, .inr (2, [.ref hn, .ref hi0, .ref hi1, .int kp, .ref hR, .ref hT])), (hn, .inr (1, [.ref nx, .ref ny, .int now.2.2.1, .int now.2.2.2.1, .int now.2.2.2.2])), (nx, .inl (cI, 10, .inl now.1)), (ny, .inl (cI, 10, .inl now.2.1)), (hT, .inr (0, rdv t))] (S := Rd) (fun z9 u9 => F_X2_leastSetToLeaveOut now t p0 p1 = (z9, u9)) (fun u => [(h0, .inr (2, [.ref hn, .ref hi0, .ref hi1, .int kp, .ref hR, .ref hT])), (hn, .inr (1, [.ref nx, .ref ny, .int now.2.2.1, .int now.2.2.2.1, .int now.2.2.2.2])), (nx, .inl (cI, 10, .inl now.1)), (ny, .inl (cI, 10, .inl now.2.1)), (hT, .inr (0, rdv u))]) := by
  refine enterM (cc := cX2_leastSetToLeaveOut) (maxL := 5) (ret := (some .int)) (own := RX2) (Qc := fun A => va_Qi (S := Rd) (fun z9 u9 => F_X2_leastSetToLeaveOut now t p0 p1 = (z9, u9)) (PoB (S := Rd) D A (fun u => [(h0, .inr (2, [.ref hn, .ref hi0, .ref hi1, .int kp, .ref hR, .ref hT])), (hn, .inr (1, [.ref nx, .ref ny, .int now.2.2.1, .int now.2.2.2.1, .int now.2.2.2.2])), (nx, .inl (cI, 10, .inl now.1)), (ny, .inl (cI, 10, .inl now.2.1)), (hT, .inr (0, rdv u))])) A) (by decide) rfl rfl (Nat.le_of_ble_eq_true rfl) ?_
  intro p e s m below meth c A ls C hK hA hP hD hS hl
  have hx := C.1
  have hb := C.2.1
  have hown := C.2.2.2.1
  have hts := C.2.2.2.2.1
  have _huse := hts
  have K2 : ∀ (n : Nat) (k : Nat) (i : Int32) (q : Rd) (_ : i.toInt = (k : Int)) (_ : k ≤ 1024) (_ : 1024 < k + n) (X : Int32 × Rd) (_ : X = L_X2_leastSetToLeaveOut_2 now p0 p1 n i q) (H : Heap) (locs : List Loc) (_ : va_P D classes [(h0, .inr (2, [.ref hn, .ref hi0, .ref hi1, .int kp, .ref hR, .ref hT])), (hn, .inr (1, [.ref nx, .ref ny, .int now.2.2.1, .int now.2.2.2.1, .int now.2.2.2.2])), (nx, .inl (cI, 10, .inl now.1)), (ny, .inl (cI, 10, .inl now.2.1)), (hT, .inr (0, rdv q))] H) (_ : va_D A [(h0, .inr (2, [.ref hn, .ref hi0, .ref hi1, .int kp, .ref hR, .ref hT])), (hn, .inr (1, [.ref nx, .ref ny, .int now.2.2.1, .int now.2.2.2.1, .int now.2.2.2.2])), (nx, .inl (cI, 10, .inl now.1)), (ny, .inl (cI, 10, .inl now.2.1)), (hT, .inr (0, rdv q))]) (_ : va_S A s.heap H locs) (ls : Array Slot) (_ : lv_has ls 5 [(0, .ref h0), (1, .int p0), (2, .int p1), (3, .int i)]), W p l e ({ frames := 5, cells := 0, slots := 0, locals := 111 } : Room) s m [.ref h0, .int p0, .int p1].toArray below meth c H locs 0 0 (MQ below (va_Qi (S := Rd) (fun z9 u9 => X = (z9, u9)) (PoB (S := Rd) D A (fun u => [(h0, .inr (2, [.ref hn, .ref hi0, .ref hi1, .int kp, .ref hR, .ref hT])), (hn, .inr (1, [.ref nx, .ref ny, .int now.2.2.1, .int now.2.2.2.1, .int now.2.2.2.2])), (nx, .inl (cI, 10, .inl now.1)), (ny, .inl (cI, 10, .inl now.2.1)), (hT, .inr (0, rdv u))])) A) [.ref h0, .int p0, .int p1].toArray s 0 0 A) (F0 m 2 ls []) := by
    intro n
    induction n with
    | zero =>
      intro k i q hi hk hfu X hX H locs hP hD hS ls hl
      exact absurd hfu (by omega)
    | succ n ih =>
      intro k i q hi hk hfu X hX H locs hP hD hS ls hl
      refine lv_iload_n hx hb dX2_leastSetToLeaveOut_2 rfl (lv_at hl 3 rfl) ?_
      refine lv_sipush (v := 1024) hx hb dX2_leastSetToLeaveOut_3 (by decide) ?_
      refine lv_icmp_ge (tgt := 70) hx hb dX2_leastSetToLeaveOut_6 (by decide) (fun c_6 => ?_) (fun c_6 => ?_)
      · refine lv_bipush (v := (-6)) hx hb dX2_leastSetToLeaveOut_70 (by decide) ?_
        exact ret_i C q (hX.trans ((if_pos c_6))) hP hD hS dX2_leastSetToLeaveOut_72
      · refine lv_iload_n hx hb dX2_leastSetToLeaveOut_9 rfl (lv_at hl 3 rfl) ?_
        refine aft_i (wr := [(h0, .inr (2, [.ref hn, .ref hi0, .ref hi1, .int kp, .ref hR, .ref hT])), (hn, .inr (1, [.ref nx, .ref ny, .int now.2.2.1, .int now.2.2.2.1, .int now.2.2.2.2])), (nx, .inl (cI, 10, .inl now.1)), (ny, .inl (cI, 10, .inl now.2.1)), (hT, .inr (0, rdv q))]) (run_S (As := [.int i]) (rest := []) C (c_J6_bitCount_0f7a4 l D cI cZ i) (va_cwS 1 hts gX2_leastSetToLeaveOut_J6_bitCount_0f7a4 rfl rfl rfl (by decide +kernel) ⟨Nat.le_of_ble_eq_true rfl, Nat.le_of_ble_eq_true rfl⟩) hK (hP.sub (ws' := []) [] rfl) (hD.sub (ws' := []) [] (by decide) rfl) rfl hl.1 rfl (Nat.le_of_ble_eq_true rfl) dX2_leastSetToLeaveOut_10 (Nat.zero_le _) (Nat.zero_le _)) hP hD hS hA [] [0, 1, 2, 3, 4] rfl rfl (by decide) (by decide) (fun r u H locs hw hP hD hS => ?_)
        subst hw
        have hP : va_P D classes [(h0, .inr (2, [.ref hn, .ref hi0, .ref hi1, .int kp, .ref hR, .ref hT])), (hn, .inr (1, [.ref nx, .ref ny, .int now.2.2.1, .int now.2.2.2.1, .int now.2.2.2.2])), (nx, .inl (cI, 10, .inl now.1)), (ny, .inl (cI, 10, .inl now.2.1)), (hT, .inr (0, rdv q))] H := hP
        have hD : va_D A [(h0, .inr (2, [.ref hn, .ref hi0, .ref hi1, .int kp, .ref hR, .ref hT])), (hn, .inr (1, [.ref nx, .ref ny, .int now.2.2.1, .int now.2.2.2.1, .int now.2.2.2.2])), (nx, .inl (cI, 10, .inl now.1)), (ny, .inl (cI, 10, .inl now.2.1)), (hT, .inr (0, rdv q))] := hD
        refine lv_iload_n hx hb dX2_leastSetToLeaveOut_13 rfl (lv_at hl 1 rfl) ?_
        refine lv_icmp_ne (tgt := 35) hx hb dX2_leastSetToLeaveOut_14 (by decide) (fun c_14 => ?_) (fun c_14 => ?_)
        · refine lv_iconst (v := 0) hx hb dX2_leastSetToLeaveOut_35 (by decide) ?_
          refine lv_istore (lv' := [(4, .int 0), (0, .ref h0), (1, .int p0), (2, .int p1), (3, .int i)]) hx hb dX2_leastSetToLeaveOut_36 hl (by decide) rfl (fun ls hl => ?_)
          refine lv_iload hx hb dX2_leastSetToLeaveOut_38 (lv_at hl 0 rfl) ?_
          refine lv_if_eq (tgt := 64) hx hb dX2_leastSetToLeaveOut_40 (by decide) (fun _ => ?_) (fun c9 => absurd (by decide) c9)
          refine lv_iinc (v := i + 1) (lv' := [(3, .int (i + 1)), (4, .int 0), (0, .ref h0), (1, .int p0), (2, .int p1)]) hx hb dX2_leastSetToLeaveOut_64 hl (k := 4) rfl rfl (by decide) rfl (fun ls hl => ?_)
          refine lv_goto (tgt := 2) hx hb dX2_leastSetToLeaveOut_67 (by decide) ?_
          exact ih (k + 1) (i + 1) q (i_succ hi (by omega)) (i_lt1024 hi c_6) (by omega) X (hX.trans ((if_neg c_6).trans ((if_neg c_14)))) _ _ hP hD hS _ (lv_sub hl [2, 3, 4, 0] rfl)
        · refine lv_iload_n hx hb dX2_leastSetToLeaveOut_17 rfl (lv_at hl 3 rfl) ?_
          refine lv_aload_n hx hb dX2_leastSetToLeaveOut_18 rfl (lv_at hl 0 rfl) ?_
          refine va_get (D := D) (ci := 2) (v := .ref hn) (C := RX2) (T := TX2) (N := 6) hx hb hts iX2_leastSetToLeaveOut_X2 hown hK.1 hP 0 rfl rfl 0 (by decide) (hts (.fieldLink RX2 12 "CompassBias" "now" "LCompassBias$Samples;") (List.mem_of_getElem? (i := 1) rfl)) (fun _ h9 => h9) rfl dX2_leastSetToLeaveOut_19 ?_
          refine va_get (D := D) (ci := 1) (v := .int now.2.2.2.1) (C := RX1) (T := TX1) (N := 5) hx hb hts iX2_leastSetToLeaveOut_X1 hown hK.1 hP 1 rfl rfl 3 (by decide) (hts (.fieldLink RX2 50 "CompassBias$Samples" "taken" "I") (List.mem_of_getElem? (i := 2) rfl)) (fun _ h9 => h9) rfl dX2_leastSetToLeaveOut_22 ?_
          refine lv_iconst (v := (-1)) hx hb dX2_leastSetToLeaveOut_25 (by decide) ?_
          refine lv_ixor hx hb dX2_leastSetToLeaveOut_26 ?_
          refine lv_iand hx hb dX2_leastSetToLeaveOut_27 ?_
          refine lv_if_ne (tgt := 35) hx hb dX2_leastSetToLeaveOut_28 (by decide) (fun c_28 => ?_) (fun c_28 => ?_)
          · refine lv_iconst (v := 0) hx hb dX2_leastSetToLeaveOut_35 (by decide) ?_
            refine lv_istore (lv' := [(4, .int 0), (0, .ref h0), (1, .int p0), (2, .int p1), (3, .int i)]) hx hb dX2_leastSetToLeaveOut_36 hl (by decide) rfl (fun ls hl => ?_)
            refine lv_iload hx hb dX2_leastSetToLeaveOut_38 (lv_at hl 0 rfl) ?_
            refine lv_if_eq (tgt := 64) hx hb dX2_leastSetToLeaveOut_40 (by decide) (fun _ => ?_) (fun c9 => absurd (by decide) c9)
            refine lv_iinc (v := i + 1) (lv' := [(3, .int (i + 1)), (4, .int 0), (0, .ref h0), (1, .int p0), (2, .int p1)]) hx hb dX2_leastSetToLeaveOut_64 hl (k := 4) rfl rfl (by decide) rfl (fun ls hl => ?_)
            refine lv_goto (tgt := 2) hx hb dX2_leastSetToLeaveOut_67 (by decide) ?_
            exact ih (k + 1) (i + 1) q (i_succ hi (by omega)) (i_lt1024 hi c_6) (by omega) X (hX.trans ((if_neg c_6).trans ((if_pos c_14).trans ((if_neg c_28))))) _ _ hP hD hS _ (lv_sub hl [2, 3, 4, 0] rfl)
          · refine lv_iconst (v := 1) hx hb dX2_leastSetToLeaveOut_31 (by decide) ?_
            refine lv_goto (tgt := 36) hx hb dX2_leastSetToLeaveOut_32 (by decide) ?_
            refine lv_istore (lv' := [(4, .int 1), (0, .ref h0), (1, .int p0), (2, .int p1), (3, .int i)]) hx hb dX2_leastSetToLeaveOut_36 hl (by decide) rfl (fun ls hl => ?_)
            refine lv_iload hx hb dX2_leastSetToLeaveOut_38 (lv_at hl 0 rfl) ?_
            refine lv_if_eq (tgt := 64) hx hb dX2_leastSetToLeaveOut_40 (by decide) (fun c9 => absurd c9 (by decide)) (fun _ => ?_)
            refine lv_aload_n hx hb dX2_leastSetToLeaveOut_43 rfl (lv_at hl 1 rfl) ?_
            refine lv_aload_n hx hb dX2_leastSetToLeaveOut_44 rfl (lv_at hl 1 rfl) ?_
            refine va_get (D := D) (ci := 2) (v := .ref hn) (C := RX2) (T := TX2) (N := 6) hx hb hts iX2_leastSetToLeaveOut_X2 hown hK.1 hP 0 rfl rfl 0 (by decide) (hts (.fieldLink RX2 12 "CompassBias" "now" "LCompassBias$Samples;") (List.mem_of_getElem? (i := 1) rfl)) (fun _ h9 => h9) rfl dX2_leastSetToLeaveOut_45 ?_
            refine va_get (D := D) (ci := 1) (v := .int now.2.2.2.1) (C := RX1) (T := TX1) (N := 5) hx hb hts iX2_leastSetToLeaveOut_X1 hown hK.1 hP 1 rfl rfl 3 (by decide) (hts (.fieldLink RX2 50 "CompassBias$Samples" "taken" "I") (List.mem_of_getElem? (i := 2) rfl)) (fun _ h9 => h9) rfl dX2_leastSetToLeaveOut_48 ?_
            refine lv_iload_n hx hb dX2_leastSetToLeaveOut_51 rfl (lv_at hl 4 rfl) ?_
            refine lv_iconst (v := (-1)) hx hb dX2_leastSetToLeaveOut_52 (by decide) ?_
            refine lv_ixor hx hb dX2_leastSetToLeaveOut_53 ?_
            refine lv_iand hx hb dX2_leastSetToLeaveOut_54 ?_
            refine lv_iload_n hx hb dX2_leastSetToLeaveOut_55 rfl (lv_at hl 3 rfl) ?_
            refine aft_i (wr := []) (run_V (As := [.int (now.2.2.2.1 &&& (i ^^^ (-1))), .int p1]) (rest := []) C (c_X2_isWithin l D cI cZ h0 hn hi0 hi1 hR hT nx ny now kp q (now.2.2.2.1 &&& (i ^^^ (-1))) p1) (cwV 2 hts gX2_leastSetToLeaveOut_X2_isWithin rfl rfl rfl (by decide +kernel) ⟨Nat.le_of_ble_eq_true rfl, Nat.le_of_ble_eq_true rfl⟩) hK (hP.sub (ws' := [(h0, .inr (2, [.ref hn, .ref hi0, .ref hi1, .int kp, .ref hR, .ref hT])), (hn, .inr (1, [.ref nx, .ref ny, .int now.2.2.1, .int now.2.2.2.1, .int now.2.2.2.2])), (nx, .inl (cI, 10, .inl now.1)), (ny, .inl (cI, 10, .inl now.2.1)), (hT, .inr (0, rdv q))]) [0, 1, 2, 3, 4] rfl) (hD.sub (ws' := [(h0, .inr (2, [.ref hn, .ref hi0, .ref hi1, .int kp, .ref hR, .ref hT])), (hn, .inr (1, [.ref nx, .ref ny, .int now.2.2.1, .int now.2.2.2.1, .int now.2.2.2.2])), (nx, .inl (cI, 10, .inl now.1)), (ny, .inl (cI, 10, .inl now.2.1)), (hT, .inr (0, rdv q))]) [0, 1, 2, 3, 4] (by decide) rfl) 0 2 rfl rfl rfl rfl hl.1 rfl (Nat.le_of_ble_eq_true rfl) dX2_leastSetToLeaveOut_56 (Nat.zero_le _) (Nat.zero_le _)) hP hD hS hA [0, 1, 2, 3, 4] [] rfl rfl (by decide) (by decide) (fun r u H locs hw hP hD hS => ?_)
            obtain ⟨rfl, rfl⟩ : (F_X2_isWithin now q (now.2.2.2.1 &&& (i ^^^ (-1))) p1).1 = r ∧ (F_X2_isWithin now q (now.2.2.2.1 &&& (i ^^^ (-1))) p1).2 = u := by rw [hw]; exact ⟨rfl, rfl⟩
            have hP : va_P D classes [(h0, .inr (2, [.ref hn, .ref hi0, .ref hi1, .int kp, .ref hR, .ref hT])), (hn, .inr (1, [.ref nx, .ref ny, .int now.2.2.1, .int now.2.2.2.1, .int now.2.2.2.2])), (nx, .inl (cI, 10, .inl now.1)), (ny, .inl (cI, 10, .inl now.2.1)), (hT, .inr (0, rdv ((F_X2_isWithin now q (now.2.2.2.1 &&& (i ^^^ (-1))) p1).2)))] H := hP
            have hD : va_D A [(h0, .inr (2, [.ref hn, .ref hi0, .ref hi1, .int kp, .ref hR, .ref hT])), (hn, .inr (1, [.ref nx, .ref ny, .int now.2.2.1, .int now.2.2.2.1, .int now.2.2.2.2])), (nx, .inl (cI, 10, .inl now.1)), (ny, .inl (cI, 10, .inl now.2.1)), (hT, .inr (0, rdv ((F_X2_isWithin now q (now.2.2.2.1 &&& (i ^^^ (-1))) p1).2)))] := hD
            refine lv_if_eq (tgt := 64) hx hb dX2_leastSetToLeaveOut_59 (by decide) (fun c_59 => ?_) (fun c_59 => ?_)
            · refine lv_iinc (v := i + 1) (lv' := [(3, .int (i + 1)), (4, .int 1), (0, .ref h0), (1, .int p0), (2, .int p1)]) hx hb dX2_leastSetToLeaveOut_64 hl (k := 4) rfl rfl (by decide) rfl (fun ls hl => ?_)
              refine lv_goto (tgt := 2) hx hb dX2_leastSetToLeaveOut_67 (by decide) ?_
              exact ih (k + 1) (i + 1) ((F_X2_isWithin now q (now.2.2.2.1 &&& (i ^^^ (-1))) p1).2) (i_succ hi (by omega)) (i_lt1024 hi c_6) (by omega) X (hX.trans ((if_neg c_6).trans ((if_pos c_14).trans ((if_pos c_28).trans ((if_pos c_59)))))) _ _ hP hD hS _ (lv_sub hl [2, 3, 4, 0] rfl)
            · refine lv_iload_n hx hb dX2_leastSetToLeaveOut_62 rfl (lv_at hl 4 rfl) ?_
              exact ret_i C ((F_X2_isWithin now q (now.2.2.2.1 &&& (i ^^^ (-1))) p1).2) (hX.trans ((if_neg c_6).trans ((if_pos c_14).trans ((if_pos c_28).trans ((if_neg c_59)))))) hP hD hS dX2_leastSetToLeaveOut_63
  have hl : lv_has ls 5 [(0, .ref h0), (1, .int p0), (2, .int p1)] := hl
  refine lv_iconst (v := 0) hx hb dX2_leastSetToLeaveOut_0 (by decide) ?_
  refine lv_istore_n (lv' := [(3, .int 0), (0, .ref h0), (1, .int p0), (2, .int p1)]) hx hb dX2_leastSetToLeaveOut_1 rfl hl (by decide) rfl (fun ls hl => ?_)
  exact K2 1025 0 0 t rfl (by omega) (by omega) (F_X2_leastSetToLeaveOut now t p0 p1) rfl _ _ hP hD hS _ (lv_sub hl [1, 2, 3, 0] rfl)
def L_X2_fewest_39 (now : Sm) (p0 : Int32) (p1 : Int32) : Nat → Int32 → Int32 → Rd → Int32 × Rd
  | 0, _, _, _ => (0, (0, 0, 0, 0, 0, 0, 0, 0, 0, 0, 0, 0, 0))
  | n + 1, b, i, q => if b < i then (((-6), q)) else (if ((F_X2_leastSetToLeaveOut now q i p0).1) = (-6) then (L_X2_fewest_39 now p0 p1 n b (i + 1) ((F_X2_leastSetToLeaveOut now q i p0).2)) else (if p1 = 0 then ((i, (F_X2_leastSetToLeaveOut now q i p0).2)) else (((F_X2_leastSetToLeaveOut now q i p0).1, (F_X2_leastSetToLeaveOut now q i p0).2))))
def F_X2_fewest (now : Sm) (t : Rd) (p0 : Int32) (p1 : Int32) : Int32 × Rd := if (F_X2_isBetween p0 0 9999) = 0 then (((-2), t)) else (if (F_X2_isBetween p1 0 1) = 0 then (((-2), t)) else (L_X2_fewest_39 now p0 p1 62 ((F_J6_bitCount_0f7a4 now.2.2.2.1) - 3) 0 t))
theorem bc_le60 (x : Int32) : (F_J6_bitCount_0f7a4 x - 3).toInt ≤ 60 := by
  unfold F_J6_bitCount_0f7a4
  exact and63_le _
theorem i_le60 {i b : Int32} {k : Nat} (hi : i.toInt = (k : Int)) (hb : b.toInt ≤ 60) (c : ¬ b < i) : k + 1 ≤ 61 := by
  rw [Int32.lt_iff_toInt_lt] at c
  omega
theorem iX2_fewest_X1 : ∀ w ∈ u_ws RX1 TX1 5, w ∈ wsX2_fewest := fun _ h => List.mem_cons_of_mem _ (List.mem_append_left _ (List.mem_append_right _ (h)))
theorem iX2_fewest_X2 : ∀ w ∈ u_ws RX2 TX2 6, w ∈ wsX2_fewest := fun _ h => List.mem_cons_of_mem _ (List.mem_append_left _ (List.mem_append_left _ (List.mem_append_right _ (h))))
set_option maxHeartbeats 4000000 in
set_option maxRecDepth 100000 in
theorem c_X2_fewest (l : Launch) (D : va_G) (cI cZ : ClassId) (h0 hn hi0 hi1 hR hT nx ny : Nat) (now : Sm) (kp : Int32) (t : Rd) (p0 : Int32) (p1 : Int32) : CTi l yX2_fewest wsX2_fewest ({ frames := 6, cells := 0, slots := 0, locals := 135 } : Room) D cI cZ [.ref h0, .int p0, .int p1] [(h0, .inr (2, [.ref hn, .ref hi0, .ref hi1, .int kp, .ref hR, .ref hT])), (hn, .inr (1, [.ref nx, .ref ny, .int now.2.2.1, .int now.2.2.2.1, .int now.2.2.2.2])), (nx, .inl (cI, 10, .inl now.1)), (ny, .inl (cI, 10, .inl now.2.1)), (hT, .inr (0, rdv t))] (S := Rd) (fun z9 u9 => F_X2_fewest now t p0 p1 = (z9, u9)) (fun u => [(h0, .inr (2, [.ref hn, .ref hi0, .ref hi1, .int kp, .ref hR, .ref hT])), (hn, .inr (1, [.ref nx, .ref ny, .int now.2.2.1, .int now.2.2.2.1, .int now.2.2.2.2])), (nx, .inl (cI, 10, .inl now.1)), (ny, .inl (cI, 10, .inl now.2.1)), (hT, .inr (0, rdv u))]) := by
  refine enterM (cc := cX2_fewest) (maxL := 6) (ret := (some .int)) (own := RX2) (Qc := fun A => va_Qi (S := Rd) (fun z9 u9 => F_X2_fewest now t p0 p1 = (z9, u9)) (PoB (S := Rd) D A (fun u => [(h0, .inr (2, [.ref hn, .ref hi0, .ref hi1, .int kp, .ref hR, .ref hT])), (hn, .inr (1, [.ref nx, .ref ny, .int now.2.2.1, .int now.2.2.2.1, .int now.2.2.2.2])), (nx, .inl (cI, 10, .inl now.1)), (ny, .inl (cI, 10, .inl now.2.1)), (hT, .inr (0, rdv u))])) A) (by decide) rfl rfl (Nat.le_of_ble_eq_true rfl) ?_
  intro p e s m below meth c A ls C hK hA hP hD hS hl
  have hx := C.1
  have hb := C.2.1
  have hown := C.2.2.2.1
  have hts := C.2.2.2.2.1
  have _huse := hts
  have K39 : ∀ (n : Nat) (k : Nat) (b : Int32) (i : Int32) (q : Rd) (_ : b.toInt ≤ 60) (_ : i.toInt = (k : Int)) (_ : k ≤ 61) (_ : 61 < k + n) (X : Int32 × Rd) (_ : X = L_X2_fewest_39 now p0 p1 n b i q) (H : Heap) (locs : List Loc) (_ : va_P D classes [(h0, .inr (2, [.ref hn, .ref hi0, .ref hi1, .int kp, .ref hR, .ref hT])), (hn, .inr (1, [.ref nx, .ref ny, .int now.2.2.1, .int now.2.2.2.1, .int now.2.2.2.2])), (nx, .inl (cI, 10, .inl now.1)), (ny, .inl (cI, 10, .inl now.2.1)), (hT, .inr (0, rdv q))] H) (_ : va_D A [(h0, .inr (2, [.ref hn, .ref hi0, .ref hi1, .int kp, .ref hR, .ref hT])), (hn, .inr (1, [.ref nx, .ref ny, .int now.2.2.1, .int now.2.2.2.1, .int now.2.2.2.2])), (nx, .inl (cI, 10, .inl now.1)), (ny, .inl (cI, 10, .inl now.2.1)), (hT, .inr (0, rdv q))]) (_ : va_S A s.heap H locs) (ls : Array Slot) (_ : lv_has ls 6 [(0, .ref h0), (1, .int p0), (2, .int p1), (3, .int b), (4, .int i)]), W p l e ({ frames := 6, cells := 0, slots := 0, locals := 135 } : Room) s m [.ref h0, .int p0, .int p1].toArray below meth c H locs 0 0 (MQ below (va_Qi (S := Rd) (fun z9 u9 => X = (z9, u9)) (PoB (S := Rd) D A (fun u => [(h0, .inr (2, [.ref hn, .ref hi0, .ref hi1, .int kp, .ref hR, .ref hT])), (hn, .inr (1, [.ref nx, .ref ny, .int now.2.2.1, .int now.2.2.2.1, .int now.2.2.2.2])), (nx, .inl (cI, 10, .inl now.1)), (ny, .inl (cI, 10, .inl now.2.1)), (hT, .inr (0, rdv u))])) A) [.ref h0, .int p0, .int p1].toArray s 0 0 A) (F0 m 39 ls []) := by
    intro n
    induction n with
    | zero =>
      intro k b i q hb60 hi hk hfu X hX H locs hP hD hS ls hl
      exact absurd hfu (by omega)
    | succ n ih =>
      intro k b i q hb60 hi hk hfu X hX H locs hP hD hS ls hl
      refine lv_iload hx hb dX2_fewest_39 (lv_at hl 4 rfl) ?_
      refine lv_iload_n hx hb dX2_fewest_41 rfl (lv_at hl 3 rfl) ?_
      refine lv_icmp_gt (tgt := 79) hx hb dX2_fewest_42 (by decide) (fun c_42 => ?_) (fun c_42 => ?_)
      · refine lv_bipush (v := (-6)) hx hb dX2_fewest_79 (by decide) ?_
        exact ret_i C q (hX.trans ((if_pos c_42))) hP hD hS dX2_fewest_81
      · refine lv_aload_n hx hb dX2_fewest_45 rfl (lv_at hl 0 rfl) ?_
        refine lv_iload hx hb dX2_fewest_46 (lv_at hl 4 rfl) ?_
        refine lv_iload_n hx hb dX2_fewest_48 rfl (lv_at hl 1 rfl) ?_
        refine aft_i (wr := []) (run_V (As := [.int i, .int p0]) (rest := []) C (c_X2_leastSetToLeaveOut l D cI cZ h0 hn hi0 hi1 hR hT nx ny now kp q i p0) (cwV 2 hts gX2_fewest_X2_leastSetToLeaveOut rfl rfl rfl (by decide +kernel) ⟨Nat.le_of_ble_eq_true rfl, Nat.le_of_ble_eq_true rfl⟩) hK (hP.sub (ws' := [(h0, .inr (2, [.ref hn, .ref hi0, .ref hi1, .int kp, .ref hR, .ref hT])), (hn, .inr (1, [.ref nx, .ref ny, .int now.2.2.1, .int now.2.2.2.1, .int now.2.2.2.2])), (nx, .inl (cI, 10, .inl now.1)), (ny, .inl (cI, 10, .inl now.2.1)), (hT, .inr (0, rdv q))]) [0, 1, 2, 3, 4] rfl) (hD.sub (ws' := [(h0, .inr (2, [.ref hn, .ref hi0, .ref hi1, .int kp, .ref hR, .ref hT])), (hn, .inr (1, [.ref nx, .ref ny, .int now.2.2.1, .int now.2.2.2.1, .int now.2.2.2.2])), (nx, .inl (cI, 10, .inl now.1)), (ny, .inl (cI, 10, .inl now.2.1)), (hT, .inr (0, rdv q))]) [0, 1, 2, 3, 4] (by decide) rfl) 0 2 rfl rfl rfl rfl hl.1 rfl (Nat.le_of_ble_eq_true rfl) dX2_fewest_49 (Nat.zero_le _) (Nat.zero_le _)) hP hD hS hA [0, 1, 2, 3, 4] [] rfl rfl (by decide) (by decide) (fun r u H locs hw hP hD hS => ?_)
        obtain ⟨rfl, rfl⟩ : (F_X2_leastSetToLeaveOut now q i p0).1 = r ∧ (F_X2_leastSetToLeaveOut now q i p0).2 = u := by rw [hw]; exact ⟨rfl, rfl⟩
        have hP : va_P D classes [(h0, .inr (2, [.ref hn, .ref hi0, .ref hi1, .int kp, .ref hR, .ref hT])), (hn, .inr (1, [.ref nx, .ref ny, .int now.2.2.1, .int now.2.2.2.1, .int now.2.2.2.2])), (nx, .inl (cI, 10, .inl now.1)), (ny, .inl (cI, 10, .inl now.2.1)), (hT, .inr (0, rdv ((F_X2_leastSetToLeaveOut now q i p0).2)))] H := hP
        have hD : va_D A [(h0, .inr (2, [.ref hn, .ref hi0, .ref hi1, .int kp, .ref hR, .ref hT])), (hn, .inr (1, [.ref nx, .ref ny, .int now.2.2.1, .int now.2.2.2.1, .int now.2.2.2.2])), (nx, .inl (cI, 10, .inl now.1)), (ny, .inl (cI, 10, .inl now.2.1)), (hT, .inr (0, rdv ((F_X2_leastSetToLeaveOut now q i p0).2)))] := hD
        refine lv_istore (lv' := [(5, .int ((F_X2_leastSetToLeaveOut now q i p0).1)), (0, .ref h0), (1, .int p0), (2, .int p1), (3, .int b), (4, .int i)]) hx hb dX2_fewest_52 hl (by decide) rfl (fun ls hl => ?_)
        refine lv_iload hx hb dX2_fewest_54 (lv_at hl 0 rfl) ?_
        refine lv_bipush (v := (-6)) hx hb dX2_fewest_56 (by decide) ?_
        refine lv_icmp_eq (tgt := 73) hx hb dX2_fewest_58 (by decide) (fun c_58 => ?_) (fun c_58 => ?_)
        · refine lv_iinc (v := i + 1) (lv' := [(4, .int (i + 1)), (5, .int ((F_X2_leastSetToLeaveOut now q i p0).1)), (0, .ref h0), (1, .int p0), (2, .int p1), (3, .int b)]) hx hb dX2_fewest_73 hl (k := 5) rfl rfl (by decide) rfl (fun ls hl => ?_)
          refine lv_goto (tgt := 39) hx hb dX2_fewest_76 (by decide) ?_
          exact ih (k + 1) b (i + 1) ((F_X2_leastSetToLeaveOut now q i p0).2) hb60 (i_succ hi (by omega)) (i_le60 hi hb60 c_42) (by omega) X (hX.trans ((if_neg c_42).trans ((if_pos c_58)))) _ _ hP hD hS _ (lv_sub hl [2, 3, 4, 5, 0] rfl)
        · refine lv_iload_n hx hb dX2_fewest_61 rfl (lv_at hl 3 rfl) ?_
          refine lv_if_ne (tgt := 70) hx hb dX2_fewest_62 (by decide) (fun c_62 => ?_) (fun c_62 => ?_)
          · refine lv_iload hx hb dX2_fewest_70 (lv_at hl 0 rfl) ?_
            exact ret_i C ((F_X2_leastSetToLeaveOut now q i p0).2) (hX.trans ((if_neg c_42).trans ((if_neg c_58).trans ((if_neg c_62))))) hP hD hS dX2_fewest_72
          · refine lv_iload hx hb dX2_fewest_65 (lv_at hl 5 rfl) ?_
            refine lv_goto (tgt := 72) hx hb dX2_fewest_67 (by decide) ?_
            exact ret_i C ((F_X2_leastSetToLeaveOut now q i p0).2) (hX.trans ((if_neg c_42).trans ((if_neg c_58).trans ((if_pos c_62))))) hP hD hS dX2_fewest_72
  have hl : lv_has ls 6 [(0, .ref h0), (1, .int p0), (2, .int p1)] := hl
  refine lv_iload_n hx hb dX2_fewest_0 rfl (lv_at hl 1 rfl) ?_
  refine lv_iconst (v := 0) hx hb dX2_fewest_1 (by decide) ?_
  refine lv_sipush (v := 9999) hx hb dX2_fewest_2 (by decide) ?_
  refine aft_i (wr := [(h0, .inr (2, [.ref hn, .ref hi0, .ref hi1, .int kp, .ref hR, .ref hT])), (hn, .inr (1, [.ref nx, .ref ny, .int now.2.2.1, .int now.2.2.2.1, .int now.2.2.2.2])), (nx, .inl (cI, 10, .inl now.1)), (ny, .inl (cI, 10, .inl now.2.1)), (hT, .inr (0, rdv t))]) (run_S (As := [.int p0, .int 0, .int 9999]) (rest := []) C (c_X2_isBetween l D cI cZ p0 0 9999) (va_cwS 3 hts gX2_fewest_X2_isBetween rfl rfl rfl (by decide +kernel) ⟨Nat.le_of_ble_eq_true rfl, Nat.le_of_ble_eq_true rfl⟩) hK (hP.sub (ws' := []) [] rfl) (hD.sub (ws' := []) [] (by decide) rfl) rfl hl.1 rfl (Nat.le_of_ble_eq_true rfl) dX2_fewest_5 (Nat.zero_le _) (Nat.zero_le _)) hP hD hS hA [] [0, 1, 2, 3, 4] rfl rfl (by decide) (by decide) (fun r u H locs hw hP hD hS => ?_)
  subst hw
  have hP : va_P D classes [(h0, .inr (2, [.ref hn, .ref hi0, .ref hi1, .int kp, .ref hR, .ref hT])), (hn, .inr (1, [.ref nx, .ref ny, .int now.2.2.1, .int now.2.2.2.1, .int now.2.2.2.2])), (nx, .inl (cI, 10, .inl now.1)), (ny, .inl (cI, 10, .inl now.2.1)), (hT, .inr (0, rdv t))] H := hP
  have hD : va_D A [(h0, .inr (2, [.ref hn, .ref hi0, .ref hi1, .int kp, .ref hR, .ref hT])), (hn, .inr (1, [.ref nx, .ref ny, .int now.2.2.1, .int now.2.2.2.1, .int now.2.2.2.2])), (nx, .inl (cI, 10, .inl now.1)), (ny, .inl (cI, 10, .inl now.2.1)), (hT, .inr (0, rdv t))] := hD
  refine lv_if_eq (tgt := 20) hx hb dX2_fewest_8 (by decide) (fun c_8 => ?_) (fun c_8 => ?_)
  · refine lv_bipush (v := (-2)) hx hb dX2_fewest_20 (by decide) ?_
    exact ret_i C t (if_pos c_8) hP hD hS dX2_fewest_22
  · refine lv_iload_n hx hb dX2_fewest_11 rfl (lv_at hl 2 rfl) ?_
    refine lv_iconst (v := 0) hx hb dX2_fewest_12 (by decide) ?_
    refine lv_iconst (v := 1) hx hb dX2_fewest_13 (by decide) ?_
    refine aft_i (wr := [(h0, .inr (2, [.ref hn, .ref hi0, .ref hi1, .int kp, .ref hR, .ref hT])), (hn, .inr (1, [.ref nx, .ref ny, .int now.2.2.1, .int now.2.2.2.1, .int now.2.2.2.2])), (nx, .inl (cI, 10, .inl now.1)), (ny, .inl (cI, 10, .inl now.2.1)), (hT, .inr (0, rdv t))]) (run_S (As := [.int p1, .int 0, .int 1]) (rest := []) C (c_X2_isBetween l D cI cZ p1 0 1) (va_cwS 3 hts gX2_fewest_X2_isBetween rfl rfl rfl (by decide +kernel) ⟨Nat.le_of_ble_eq_true rfl, Nat.le_of_ble_eq_true rfl⟩) hK (hP.sub (ws' := []) [] rfl) (hD.sub (ws' := []) [] (by decide) rfl) rfl hl.1 rfl (Nat.le_of_ble_eq_true rfl) dX2_fewest_14 (Nat.zero_le _) (Nat.zero_le _)) hP hD hS hA [] [0, 1, 2, 3, 4] rfl rfl (by decide) (by decide) (fun r u H locs hw hP hD hS => ?_)
    subst hw
    have hP : va_P D classes [(h0, .inr (2, [.ref hn, .ref hi0, .ref hi1, .int kp, .ref hR, .ref hT])), (hn, .inr (1, [.ref nx, .ref ny, .int now.2.2.1, .int now.2.2.2.1, .int now.2.2.2.2])), (nx, .inl (cI, 10, .inl now.1)), (ny, .inl (cI, 10, .inl now.2.1)), (hT, .inr (0, rdv t))] H := hP
    have hD : va_D A [(h0, .inr (2, [.ref hn, .ref hi0, .ref hi1, .int kp, .ref hR, .ref hT])), (hn, .inr (1, [.ref nx, .ref ny, .int now.2.2.1, .int now.2.2.2.1, .int now.2.2.2.2])), (nx, .inl (cI, 10, .inl now.1)), (ny, .inl (cI, 10, .inl now.2.1)), (hT, .inr (0, rdv t))] := hD
    refine lv_if_ne (tgt := 23) hx hb dX2_fewest_17 (by decide) (fun c_17 => ?_) (fun c_17 => ?_)
    · refine lv_aload_n hx hb dX2_fewest_23 rfl (lv_at hl 0 rfl) ?_
      refine va_get (D := D) (ci := 2) (v := .ref hn) (C := RX2) (T := TX2) (N := 6) hx hb hts iX2_fewest_X2 hown hK.1 hP 0 rfl rfl 0 (by decide) (hts (.fieldLink RX2 12 "CompassBias" "now" "LCompassBias$Samples;") (List.mem_of_getElem? (i := 1) rfl)) (fun _ h9 => h9) rfl dX2_fewest_24 ?_
      refine va_get (D := D) (ci := 1) (v := .int now.2.2.2.1) (C := RX1) (T := TX1) (N := 5) hx hb hts iX2_fewest_X1 hown hK.1 hP 1 rfl rfl 3 (by decide) (hts (.fieldLink RX2 50 "CompassBias$Samples" "taken" "I") (List.mem_of_getElem? (i := 2) rfl)) (fun _ h9 => h9) rfl dX2_fewest_27 ?_
      refine aft_i (wr := [(h0, .inr (2, [.ref hn, .ref hi0, .ref hi1, .int kp, .ref hR, .ref hT])), (hn, .inr (1, [.ref nx, .ref ny, .int now.2.2.1, .int now.2.2.2.1, .int now.2.2.2.2])), (nx, .inl (cI, 10, .inl now.1)), (ny, .inl (cI, 10, .inl now.2.1)), (hT, .inr (0, rdv t))]) (run_S (As := [.int now.2.2.2.1]) (rest := []) C (c_J6_bitCount_0f7a4 l D cI cZ now.2.2.2.1) (va_cwS 1 hts gX2_fewest_J6_bitCount_0f7a4 rfl rfl rfl (by decide +kernel) ⟨Nat.le_of_ble_eq_true rfl, Nat.le_of_ble_eq_true rfl⟩) hK (hP.sub (ws' := []) [] rfl) (hD.sub (ws' := []) [] (by decide) rfl) rfl hl.1 rfl (Nat.le_of_ble_eq_true rfl) dX2_fewest_30 (Nat.zero_le _) (Nat.zero_le _)) hP hD hS hA [] [0, 1, 2, 3, 4] rfl rfl (by decide) (by decide) (fun r u H locs hw hP hD hS => ?_)
      subst hw
      have hP : va_P D classes [(h0, .inr (2, [.ref hn, .ref hi0, .ref hi1, .int kp, .ref hR, .ref hT])), (hn, .inr (1, [.ref nx, .ref ny, .int now.2.2.1, .int now.2.2.2.1, .int now.2.2.2.2])), (nx, .inl (cI, 10, .inl now.1)), (ny, .inl (cI, 10, .inl now.2.1)), (hT, .inr (0, rdv t))] H := hP
      have hD : va_D A [(h0, .inr (2, [.ref hn, .ref hi0, .ref hi1, .int kp, .ref hR, .ref hT])), (hn, .inr (1, [.ref nx, .ref ny, .int now.2.2.1, .int now.2.2.2.1, .int now.2.2.2.2])), (nx, .inl (cI, 10, .inl now.1)), (ny, .inl (cI, 10, .inl now.2.1)), (hT, .inr (0, rdv t))] := hD
      refine lv_iconst (v := 3) hx hb dX2_fewest_33 (by decide) ?_
      refine lv_isub hx hb dX2_fewest_34 ?_
      refine lv_istore_n (lv' := [(3, .int ((F_J6_bitCount_0f7a4 now.2.2.2.1) - 3)), (0, .ref h0), (1, .int p0), (2, .int p1)]) hx hb dX2_fewest_35 rfl hl (by decide) rfl (fun ls hl => ?_)
      refine lv_iconst (v := 0) hx hb dX2_fewest_36 (by decide) ?_
      refine lv_istore (lv' := [(4, .int 0), (3, .int ((F_J6_bitCount_0f7a4 now.2.2.2.1) - 3)), (0, .ref h0), (1, .int p0), (2, .int p1)]) hx hb dX2_fewest_37 hl (by decide) rfl (fun ls hl => ?_)
      exact K39 62 0 ((F_J6_bitCount_0f7a4 now.2.2.2.1) - 3) 0 t (bc_le60 _) rfl (by omega) (by omega) (F_X2_fewest now t p0 p1) ((if_neg c_8).trans ((if_neg c_17))) _ _ hP hD hS _ (lv_sub hl [2, 3, 4, 1, 0] rfl)
    · refine lv_bipush (v := (-2)) hx hb dX2_fewest_20 (by decide) ?_
      exact ret_i C t ((if_neg c_8).trans ((if_pos c_17))) hP hD hS dX2_fewest_22
def L_X2_trim_44 (p0 : Int32) : Nat → Int32 → Int32 → Sm → Rd → Int32 × Sm × Rd
  | 0, _, _, _, _ => (0, (fun _ => 0, fun _ => 0, 0, 0, 0), (0, 0, 0, 0, 0, 0, 0, 0, 0, 0, 0, 0, 0))
  | n + 1, b, i, v, q => if 10 ≤ i then ((b - (F_J6_bitCount_0f7a4 v.2.2.2.1), v, q)) else (if (F_X2_isToTrim v q p0) = 0 then ((b - (F_J6_bitCount_0f7a4 v.2.2.2.1), v, q)) else (L_X2_trim_44 p0 n b (i + 1) (v.1, v.2.1, v.2.2.1, v.2.2.2.1 &&& ((1 <<< ((F_X2_worstSample v q) &&& 31)) ^^^ (-1)), v.2.2.2.2) (F_X2_layTheRound (v.1, v.2.1, v.2.2.1, v.2.2.2.1 &&& ((1 <<< ((F_X2_worstSample v q) &&& 31)) ^^^ (-1)), v.2.2.2.2) q)))
def F_X2_trim (now : Sm) (r : Rd) (p0 : Int32) : Int32 × Sm × Rd := if (F_X2_isBetween p0 0 9999) = 0 then (((-2), now, r)) else (if (F_X0_isFlat (F_X2_layTheRound now r)) = 0 then (L_X2_trim_44 p0 11 (F_J6_bitCount_0f7a4 now.2.2.2.1) 0 now (F_X2_layTheRound now r)) else (((-5), now, F_X2_layTheRound now r)))
theorem iX2_trim_X1 : ∀ w ∈ u_ws RX1 TX1 5, w ∈ wsX2_trim := fun _ h => List.mem_cons_of_mem _ (List.mem_append_left _ (List.mem_append_right _ (h)))
theorem iX2_trim_X2 : ∀ w ∈ u_ws RX2 TX2 6, w ∈ wsX2_trim := fun _ h => List.mem_cons_of_mem _ (List.mem_append_left _ (List.mem_append_left _ (List.mem_append_right _ (h))))
set_option maxHeartbeats 4000000 in
set_option maxRecDepth 100000 in
theorem c_X2_trim (l : Launch) (D : va_G) (cI cZ : ClassId) (h0 hn hi0 hi1 hR hT nx ny : Nat) (now : Sm) (kp : Int32) (r : Rd) (p0 : Int32) : CTi l yX2_trim wsX2_trim ({ frames := 5, cells := 0, slots := 0, locals := 112 } : Room) D cI cZ [.ref h0, .int p0] [(h0, .inr (2, [.ref hn, .ref hi0, .ref hi1, .int kp, .ref hR, .ref hT])), (hn, .inr (1, [.ref nx, .ref ny, .int now.2.2.1, .int now.2.2.2.1, .int now.2.2.2.2])), (nx, .inl (cI, 10, .inl now.1)), (ny, .inl (cI, 10, .inl now.2.1)), (hR, .inr (0, rdv r))] (S := Sm × Rd) (fun z9 u9 => F_X2_trim now r p0 = (z9, u9)) (fun u => [(h0, .inr (2, [.ref hn, .ref hi0, .ref hi1, .int kp, .ref hR, .ref hT])), (hn, .inr (1, [.ref nx, .ref ny, .int u.1.2.2.1, .int u.1.2.2.2.1, .int u.1.2.2.2.2])), (nx, .inl (cI, 10, .inl u.1.1)), (ny, .inl (cI, 10, .inl u.1.2.1)), (hR, .inr (0, rdv u.2))]) := by
  refine enterM (cc := cX2_trim) (maxL := 4) (ret := (some .int)) (own := RX2) (Qc := fun A => va_Qi (S := Sm × Rd) (fun z9 u9 => F_X2_trim now r p0 = (z9, u9)) (PoB (S := Sm × Rd) D A (fun u => [(h0, .inr (2, [.ref hn, .ref hi0, .ref hi1, .int kp, .ref hR, .ref hT])), (hn, .inr (1, [.ref nx, .ref ny, .int u.1.2.2.1, .int u.1.2.2.2.1, .int u.1.2.2.2.2])), (nx, .inl (cI, 10, .inl u.1.1)), (ny, .inl (cI, 10, .inl u.1.2.1)), (hR, .inr (0, rdv u.2))])) A) (by decide) rfl rfl (Nat.le_of_ble_eq_true rfl) ?_
  intro p e s m below meth c A ls C hK hA hP hD hS hl
  have hx := C.1
  have hb := C.2.1
  have hown := C.2.2.2.1
  have hts := C.2.2.2.2.1
  have _huse := hts
  have K44 : ∀ (n : Nat) (k : Nat) (b : Int32) (i : Int32) (v : Sm) (q : Rd) (_ : i.toInt = (k : Int)) (_ : k ≤ 10) (_ : 10 < k + n) (X : Int32 × Sm × Rd) (_ : X = L_X2_trim_44 p0 n b i v q) (H : Heap) (locs : List Loc) (_ : va_P D classes [(h0, .inr (2, [.ref hn, .ref hi0, .ref hi1, .int kp, .ref hR, .ref hT])), (hn, .inr (1, [.ref nx, .ref ny, .int v.2.2.1, .int v.2.2.2.1, .int v.2.2.2.2])), (nx, .inl (cI, 10, .inl v.1)), (ny, .inl (cI, 10, .inl v.2.1)), (hR, .inr (0, rdv q))] H) (_ : va_D A [(h0, .inr (2, [.ref hn, .ref hi0, .ref hi1, .int kp, .ref hR, .ref hT])), (hn, .inr (1, [.ref nx, .ref ny, .int v.2.2.1, .int v.2.2.2.1, .int v.2.2.2.2])), (nx, .inl (cI, 10, .inl v.1)), (ny, .inl (cI, 10, .inl v.2.1)), (hR, .inr (0, rdv q))]) (_ : va_S A s.heap H locs) (ls : Array Slot) (_ : lv_has ls 4 [(0, .ref h0), (1, .int p0), (2, .int b), (3, .int i)]), W p l e ({ frames := 5, cells := 0, slots := 0, locals := 112 } : Room) s m [.ref h0, .int p0].toArray below meth c H locs 0 0 (MQ below (va_Qi (S := Sm × Rd) (fun z9 u9 => X = (z9, u9)) (PoB (S := Sm × Rd) D A (fun u => [(h0, .inr (2, [.ref hn, .ref hi0, .ref hi1, .int kp, .ref hR, .ref hT])), (hn, .inr (1, [.ref nx, .ref ny, .int u.1.2.2.1, .int u.1.2.2.2.1, .int u.1.2.2.2.2])), (nx, .inl (cI, 10, .inl u.1.1)), (ny, .inl (cI, 10, .inl u.1.2.1)), (hR, .inr (0, rdv u.2))])) A) [.ref h0, .int p0].toArray s 0 0 A) (F0 m 44 ls []) := by
    intro n
    induction n with
    | zero =>
      intro k b i v q hi hk hfu X hX H locs hP hD hS ls hl
      exact absurd hfu (by omega)
    | succ n ih =>
      intro k b i v q hi hk hfu X hX H locs hP hD hS ls hl
      refine lv_iload_n hx hb dX2_trim_44 rfl (lv_at hl 3 rfl) ?_
      refine lv_bipush (v := 10) hx hb dX2_trim_45 (by decide) ?_
      refine lv_icmp_ge (tgt := 88) hx hb dX2_trim_47 (by decide) (fun c_47 => ?_) (fun c_47 => ?_)
      · refine lv_iload_n hx hb dX2_trim_88 rfl (lv_at hl 2 rfl) ?_
        refine lv_aload_n hx hb dX2_trim_89 rfl (lv_at hl 0 rfl) ?_
        refine va_get (D := D) (ci := 2) (v := .ref hn) (C := RX2) (T := TX2) (N := 6) hx hb hts iX2_trim_X2 hown hK.1 hP 0 rfl rfl 0 (by decide) (hts (.fieldLink RX2 12 "CompassBias" "now" "LCompassBias$Samples;") (List.mem_of_getElem? (i := 2) rfl)) (fun _ h9 => h9) rfl dX2_trim_90 ?_
        refine va_get (D := D) (ci := 1) (v := .int v.2.2.2.1) (C := RX1) (T := TX1) (N := 5) hx hb hts iX2_trim_X1 hown hK.1 hP 1 rfl rfl 3 (by decide) (hts (.fieldLink RX2 50 "CompassBias$Samples" "taken" "I") (List.mem_of_getElem? (i := 3) rfl)) (fun _ h9 => h9) rfl dX2_trim_93 ?_
        refine aft_i (wr := [(h0, .inr (2, [.ref hn, .ref hi0, .ref hi1, .int kp, .ref hR, .ref hT])), (hn, .inr (1, [.ref nx, .ref ny, .int v.2.2.1, .int v.2.2.2.1, .int v.2.2.2.2])), (nx, .inl (cI, 10, .inl v.1)), (ny, .inl (cI, 10, .inl v.2.1)), (hR, .inr (0, rdv q))]) (run_S (As := [.int v.2.2.2.1]) (rest := [.int b]) C (c_J6_bitCount_0f7a4 l D cI cZ v.2.2.2.1) (va_cwS 1 hts gX2_trim_J6_bitCount_0f7a4 rfl rfl rfl (by decide +kernel) ⟨Nat.le_of_ble_eq_true rfl, Nat.le_of_ble_eq_true rfl⟩) hK (hP.sub (ws' := []) [] rfl) (hD.sub (ws' := []) [] (by decide) rfl) rfl hl.1 rfl (Nat.le_of_ble_eq_true rfl) dX2_trim_96 (Nat.zero_le _) (Nat.zero_le _)) hP hD hS hA [] [0, 1, 2, 3, 4] rfl rfl (by decide) (by decide) (fun r u H locs hw hP hD hS => ?_)
        subst hw
        have hP : va_P D classes [(h0, .inr (2, [.ref hn, .ref hi0, .ref hi1, .int kp, .ref hR, .ref hT])), (hn, .inr (1, [.ref nx, .ref ny, .int v.2.2.1, .int v.2.2.2.1, .int v.2.2.2.2])), (nx, .inl (cI, 10, .inl v.1)), (ny, .inl (cI, 10, .inl v.2.1)), (hR, .inr (0, rdv q))] H := hP
        have hD : va_D A [(h0, .inr (2, [.ref hn, .ref hi0, .ref hi1, .int kp, .ref hR, .ref hT])), (hn, .inr (1, [.ref nx, .ref ny, .int v.2.2.1, .int v.2.2.2.1, .int v.2.2.2.2])), (nx, .inl (cI, 10, .inl v.1)), (ny, .inl (cI, 10, .inl v.2.1)), (hR, .inr (0, rdv q))] := hD
        refine lv_isub hx hb dX2_trim_99 ?_
        exact ret_i C (v, q) (hX.trans ((if_pos c_47))) hP hD hS dX2_trim_100
      · refine lv_aload_n hx hb dX2_trim_50 rfl (lv_at hl 0 rfl) ?_
        refine lv_iload_n hx hb dX2_trim_51 rfl (lv_at hl 1 rfl) ?_
        refine aft_i (wr := []) (run_V (As := [.int p0]) (rest := []) C (c_X2_isToTrim l D cI cZ h0 hn hi0 hi1 hR hT nx ny v kp q p0) (cwV 1 hts gX2_trim_X2_isToTrim rfl rfl rfl (by decide +kernel) ⟨Nat.le_of_ble_eq_true rfl, Nat.le_of_ble_eq_true rfl⟩) hK (hP.sub (ws' := [(h0, .inr (2, [.ref hn, .ref hi0, .ref hi1, .int kp, .ref hR, .ref hT])), (hn, .inr (1, [.ref nx, .ref ny, .int v.2.2.1, .int v.2.2.2.1, .int v.2.2.2.2])), (nx, .inl (cI, 10, .inl v.1)), (ny, .inl (cI, 10, .inl v.2.1)), (hR, .inr (0, rdv q))]) [0, 1, 2, 3, 4] rfl) (hD.sub (ws' := [(h0, .inr (2, [.ref hn, .ref hi0, .ref hi1, .int kp, .ref hR, .ref hT])), (hn, .inr (1, [.ref nx, .ref ny, .int v.2.2.1, .int v.2.2.2.1, .int v.2.2.2.2])), (nx, .inl (cI, 10, .inl v.1)), (ny, .inl (cI, 10, .inl v.2.1)), (hR, .inr (0, rdv q))]) [0, 1, 2, 3, 4] (by decide) rfl) 0 2 rfl rfl rfl rfl hl.1 rfl (Nat.le_of_ble_eq_true rfl) dX2_trim_52 (Nat.zero_le _) (Nat.zero_le _)) hP hD hS hA [0, 1, 2, 3, 4] [] rfl rfl (by decide) (by decide) (fun r u H locs hw hP hD hS => ?_)
        subst hw
        have hP : va_P D classes [(h0, .inr (2, [.ref hn, .ref hi0, .ref hi1, .int kp, .ref hR, .ref hT])), (hn, .inr (1, [.ref nx, .ref ny, .int v.2.2.1, .int v.2.2.2.1, .int v.2.2.2.2])), (nx, .inl (cI, 10, .inl v.1)), (ny, .inl (cI, 10, .inl v.2.1)), (hR, .inr (0, rdv q))] H := hP
        have hD : va_D A [(h0, .inr (2, [.ref hn, .ref hi0, .ref hi1, .int kp, .ref hR, .ref hT])), (hn, .inr (1, [.ref nx, .ref ny, .int v.2.2.1, .int v.2.2.2.1, .int v.2.2.2.2])), (nx, .inl (cI, 10, .inl v.1)), (ny, .inl (cI, 10, .inl v.2.1)), (hR, .inr (0, rdv q))] := hD
        refine lv_if_eq (tgt := 88) hx hb dX2_trim_55 (by decide) (fun c_55 => ?_) (fun c_55 => ?_)
        · refine lv_iload_n hx hb dX2_trim_88 rfl (lv_at hl 2 rfl) ?_
          refine lv_aload_n hx hb dX2_trim_89 rfl (lv_at hl 0 rfl) ?_
          refine va_get (D := D) (ci := 2) (v := .ref hn) (C := RX2) (T := TX2) (N := 6) hx hb hts iX2_trim_X2 hown hK.1 hP 0 rfl rfl 0 (by decide) (hts (.fieldLink RX2 12 "CompassBias" "now" "LCompassBias$Samples;") (List.mem_of_getElem? (i := 2) rfl)) (fun _ h9 => h9) rfl dX2_trim_90 ?_
          refine va_get (D := D) (ci := 1) (v := .int v.2.2.2.1) (C := RX1) (T := TX1) (N := 5) hx hb hts iX2_trim_X1 hown hK.1 hP 1 rfl rfl 3 (by decide) (hts (.fieldLink RX2 50 "CompassBias$Samples" "taken" "I") (List.mem_of_getElem? (i := 3) rfl)) (fun _ h9 => h9) rfl dX2_trim_93 ?_
          refine aft_i (wr := [(h0, .inr (2, [.ref hn, .ref hi0, .ref hi1, .int kp, .ref hR, .ref hT])), (hn, .inr (1, [.ref nx, .ref ny, .int v.2.2.1, .int v.2.2.2.1, .int v.2.2.2.2])), (nx, .inl (cI, 10, .inl v.1)), (ny, .inl (cI, 10, .inl v.2.1)), (hR, .inr (0, rdv q))]) (run_S (As := [.int v.2.2.2.1]) (rest := [.int b]) C (c_J6_bitCount_0f7a4 l D cI cZ v.2.2.2.1) (va_cwS 1 hts gX2_trim_J6_bitCount_0f7a4 rfl rfl rfl (by decide +kernel) ⟨Nat.le_of_ble_eq_true rfl, Nat.le_of_ble_eq_true rfl⟩) hK (hP.sub (ws' := []) [] rfl) (hD.sub (ws' := []) [] (by decide) rfl) rfl hl.1 rfl (Nat.le_of_ble_eq_true rfl) dX2_trim_96 (Nat.zero_le _) (Nat.zero_le _)) hP hD hS hA [] [0, 1, 2, 3, 4] rfl rfl (by decide) (by decide) (fun r u H locs hw hP hD hS => ?_)
          subst hw
          have hP : va_P D classes [(h0, .inr (2, [.ref hn, .ref hi0, .ref hi1, .int kp, .ref hR, .ref hT])), (hn, .inr (1, [.ref nx, .ref ny, .int v.2.2.1, .int v.2.2.2.1, .int v.2.2.2.2])), (nx, .inl (cI, 10, .inl v.1)), (ny, .inl (cI, 10, .inl v.2.1)), (hR, .inr (0, rdv q))] H := hP
          have hD : va_D A [(h0, .inr (2, [.ref hn, .ref hi0, .ref hi1, .int kp, .ref hR, .ref hT])), (hn, .inr (1, [.ref nx, .ref ny, .int v.2.2.1, .int v.2.2.2.1, .int v.2.2.2.2])), (nx, .inl (cI, 10, .inl v.1)), (ny, .inl (cI, 10, .inl v.2.1)), (hR, .inr (0, rdv q))] := hD
          refine lv_isub hx hb dX2_trim_99 ?_
          exact ret_i C (v, q) (hX.trans ((if_neg c_47).trans ((if_pos c_55)))) hP hD hS dX2_trim_100
        · refine lv_aload_n hx hb dX2_trim_58 rfl (lv_at hl 0 rfl) ?_
          refine va_get (D := D) (ci := 2) (v := .ref hn) (C := RX2) (T := TX2) (N := 6) hx hb hts iX2_trim_X2 hown hK.1 hP 0 rfl rfl 0 (by decide) (hts (.fieldLink RX2 12 "CompassBias" "now" "LCompassBias$Samples;") (List.mem_of_getElem? (i := 2) rfl)) (fun _ h9 => h9) rfl dX2_trim_59 ?_
          refine lv_dup hx hb dX2_trim_62 rfl ?_
          refine va_get (D := D) (ci := 1) (v := .int v.2.2.2.1) (C := RX1) (T := TX1) (N := 5) hx hb hts iX2_trim_X1 hown hK.1 hP 1 rfl rfl 3 (by decide) (hts (.fieldLink RX2 50 "CompassBias$Samples" "taken" "I") (List.mem_of_getElem? (i := 3) rfl)) (fun _ h9 => h9) rfl dX2_trim_63 ?_
          refine lv_iconst (v := 1) hx hb dX2_trim_66 (by decide) ?_
          refine lv_aload_n hx hb dX2_trim_67 rfl (lv_at hl 0 rfl) ?_
          refine aft_i (wr := []) (run_V (As := []) (rest := [.int 1, .int v.2.2.2.1, .ref hn]) C (c_X2_worstSample l D cI cZ h0 hn hi0 hi1 hR hT nx ny v kp q) (cwV 0 hts gX2_trim_X2_worstSample rfl rfl rfl (by decide +kernel) ⟨Nat.le_of_ble_eq_true rfl, Nat.le_of_ble_eq_true rfl⟩) hK (hP.sub (ws' := [(h0, .inr (2, [.ref hn, .ref hi0, .ref hi1, .int kp, .ref hR, .ref hT])), (hn, .inr (1, [.ref nx, .ref ny, .int v.2.2.1, .int v.2.2.2.1, .int v.2.2.2.2])), (nx, .inl (cI, 10, .inl v.1)), (ny, .inl (cI, 10, .inl v.2.1)), (hR, .inr (0, rdv q))]) [0, 1, 2, 3, 4] rfl) (hD.sub (ws' := [(h0, .inr (2, [.ref hn, .ref hi0, .ref hi1, .int kp, .ref hR, .ref hT])), (hn, .inr (1, [.ref nx, .ref ny, .int v.2.2.1, .int v.2.2.2.1, .int v.2.2.2.2])), (nx, .inl (cI, 10, .inl v.1)), (ny, .inl (cI, 10, .inl v.2.1)), (hR, .inr (0, rdv q))]) [0, 1, 2, 3, 4] (by decide) rfl) 0 2 rfl rfl rfl rfl hl.1 rfl (Nat.le_of_ble_eq_true rfl) dX2_trim_68 (Nat.zero_le _) (Nat.zero_le _)) hP hD hS hA [0, 1, 2, 3, 4] [] rfl rfl (by decide) (by decide) (fun r u H locs hw hP hD hS => ?_)
          subst hw
          have hP : va_P D classes [(h0, .inr (2, [.ref hn, .ref hi0, .ref hi1, .int kp, .ref hR, .ref hT])), (hn, .inr (1, [.ref nx, .ref ny, .int v.2.2.1, .int v.2.2.2.1, .int v.2.2.2.2])), (nx, .inl (cI, 10, .inl v.1)), (ny, .inl (cI, 10, .inl v.2.1)), (hR, .inr (0, rdv q))] H := hP
          have hD : va_D A [(h0, .inr (2, [.ref hn, .ref hi0, .ref hi1, .int kp, .ref hR, .ref hT])), (hn, .inr (1, [.ref nx, .ref ny, .int v.2.2.1, .int v.2.2.2.1, .int v.2.2.2.2])), (nx, .inl (cI, 10, .inl v.1)), (ny, .inl (cI, 10, .inl v.2.1)), (hR, .inr (0, rdv q))] := hD
          refine lv_ishl hx hb dX2_trim_71 ?_
          refine lv_iconst (v := (-1)) hx hb dX2_trim_72 (by decide) ?_
          refine lv_ixor hx hb dX2_trim_73 ?_
          refine lv_iand hx hb dX2_trim_74 ?_
          refine va_put (D := D) (ci := 1) (v := .int (v.2.2.2.1 &&& ((1 <<< ((F_X2_worstSample v q) &&& 31)) ^^^ (-1)))) (ty := .int) (C := RX1) (T := TX1) (N := 5) hx hb hts iX2_trim_X1 tyX1 tyX1_ok nmX1 hown hK.1 hP hD hS 1 rfl rfl 3 (by decide) (hts (.fieldLink RX2 50 "CompassBias$Samples" "taken" "I") (List.mem_of_getElem? (i := 3) rfl)) (fun _ h9 => h9) rfl (by decide +kernel) rfl rfl (Nat.le_of_ble_eq_true rfl) dX2_trim_75 (fun H locs hP hD hS => ?_)
          have hP : va_P D classes [(h0, .inr (2, [.ref hn, .ref hi0, .ref hi1, .int kp, .ref hR, .ref hT])), (hn, .inr (1, [.ref nx, .ref ny, .int v.2.2.1, .int (v.2.2.2.1 &&& ((1 <<< ((F_X2_worstSample v q) &&& 31)) ^^^ (-1))), .int v.2.2.2.2])), (nx, .inl (cI, 10, .inl v.1)), (ny, .inl (cI, 10, .inl v.2.1)), (hR, .inr (0, rdv q))] H := hP
          have hD : va_D A [(h0, .inr (2, [.ref hn, .ref hi0, .ref hi1, .int kp, .ref hR, .ref hT])), (hn, .inr (1, [.ref nx, .ref ny, .int v.2.2.1, .int (v.2.2.2.1 &&& ((1 <<< ((F_X2_worstSample v q) &&& 31)) ^^^ (-1))), .int v.2.2.2.2])), (nx, .inl (cI, 10, .inl v.1)), (ny, .inl (cI, 10, .inl v.2.1)), (hR, .inr (0, rdv q))] := hD
          refine lv_aload_n hx hb dX2_trim_78 rfl (lv_at hl 0 rfl) ?_
          refine aft_v (wr := []) (run_V (As := []) (rest := []) C (c_X2_layTheRound l D cI cZ h0 hn hi0 hi1 hR hT nx ny (v.1, v.2.1, v.2.2.1, v.2.2.2.1 &&& ((1 <<< ((F_X2_worstSample v q) &&& 31)) ^^^ (-1)), v.2.2.2.2) kp q) (cwV 0 hts gX2_trim_X2_layTheRound rfl rfl rfl (by decide +kernel) ⟨Nat.le_of_ble_eq_true rfl, Nat.le_of_ble_eq_true rfl⟩) hK (hP.sub (ws' := [(h0, .inr (2, [.ref hn, .ref hi0, .ref hi1, .int kp, .ref hR, .ref hT])), (hn, .inr (1, [.ref nx, .ref ny, .int v.2.2.1, .int (v.2.2.2.1 &&& ((1 <<< ((F_X2_worstSample v q) &&& 31)) ^^^ (-1))), .int v.2.2.2.2])), (nx, .inl (cI, 10, .inl v.1)), (ny, .inl (cI, 10, .inl v.2.1)), (hR, .inr (0, rdv q))]) [0, 1, 2, 3, 4] rfl) (hD.sub (ws' := [(h0, .inr (2, [.ref hn, .ref hi0, .ref hi1, .int kp, .ref hR, .ref hT])), (hn, .inr (1, [.ref nx, .ref ny, .int v.2.2.1, .int (v.2.2.2.1 &&& ((1 <<< ((F_X2_worstSample v q) &&& 31)) ^^^ (-1))), .int v.2.2.2.2])), (nx, .inl (cI, 10, .inl v.1)), (ny, .inl (cI, 10, .inl v.2.1)), (hR, .inr (0, rdv q))]) [0, 1, 2, 3, 4] (by decide) rfl) 0 2 rfl rfl rfl rfl hl.1 rfl (Nat.le_of_ble_eq_true rfl) dX2_trim_79 (Nat.zero_le _) (Nat.zero_le _)) hP hD hS hA [0, 1, 2, 3, 4] [] rfl rfl (by decide) (by decide) (fun u H locs hw hP hD hS => ?_)
          subst hw
          have hP : va_P D classes [(h0, .inr (2, [.ref hn, .ref hi0, .ref hi1, .int kp, .ref hR, .ref hT])), (hn, .inr (1, [.ref nx, .ref ny, .int v.2.2.1, .int (v.2.2.2.1 &&& ((1 <<< ((F_X2_worstSample v q) &&& 31)) ^^^ (-1))), .int v.2.2.2.2])), (nx, .inl (cI, 10, .inl v.1)), (ny, .inl (cI, 10, .inl v.2.1)), (hR, .inr (0, rdv (F_X2_layTheRound (v.1, v.2.1, v.2.2.1, v.2.2.2.1 &&& ((1 <<< ((F_X2_worstSample v q) &&& 31)) ^^^ (-1)), v.2.2.2.2) q)))] H := hP
          have hD : va_D A [(h0, .inr (2, [.ref hn, .ref hi0, .ref hi1, .int kp, .ref hR, .ref hT])), (hn, .inr (1, [.ref nx, .ref ny, .int v.2.2.1, .int (v.2.2.2.1 &&& ((1 <<< ((F_X2_worstSample v q) &&& 31)) ^^^ (-1))), .int v.2.2.2.2])), (nx, .inl (cI, 10, .inl v.1)), (ny, .inl (cI, 10, .inl v.2.1)), (hR, .inr (0, rdv (F_X2_layTheRound (v.1, v.2.1, v.2.2.1, v.2.2.2.1 &&& ((1 <<< ((F_X2_worstSample v q) &&& 31)) ^^^ (-1)), v.2.2.2.2) q)))] := hD
          refine lv_iinc (v := i + 1) (lv' := [(3, .int (i + 1)), (0, .ref h0), (1, .int p0), (2, .int b)]) hx hb dX2_trim_82 hl (k := 3) rfl rfl (by decide) rfl (fun ls hl => ?_)
          refine lv_goto (tgt := 44) hx hb dX2_trim_85 (by decide) ?_
          exact ih (k + 1) b (i + 1) (v.1, v.2.1, v.2.2.1, v.2.2.2.1 &&& ((1 <<< ((F_X2_worstSample v q) &&& 31)) ^^^ (-1)), v.2.2.2.2) (F_X2_layTheRound (v.1, v.2.1, v.2.2.1, v.2.2.2.1 &&& ((1 <<< ((F_X2_worstSample v q) &&& 31)) ^^^ (-1)), v.2.2.2.2) q) (i_succ hi (by omega)) (i_lt10 hi c_47) (by omega) X (hX.trans ((if_neg c_47).trans ((if_neg c_55)))) _ _ hP hD hS _ (lv_sub hl [1, 2, 3, 0] rfl)
  have hl : lv_has ls 4 [(0, .ref h0), (1, .int p0)] := hl
  refine lv_iload_n hx hb dX2_trim_0 rfl (lv_at hl 1 rfl) ?_
  refine lv_iconst (v := 0) hx hb dX2_trim_1 (by decide) ?_
  refine lv_sipush (v := 9999) hx hb dX2_trim_2 (by decide) ?_
  refine aft_i (wr := [(h0, .inr (2, [.ref hn, .ref hi0, .ref hi1, .int kp, .ref hR, .ref hT])), (hn, .inr (1, [.ref nx, .ref ny, .int now.2.2.1, .int now.2.2.2.1, .int now.2.2.2.2])), (nx, .inl (cI, 10, .inl now.1)), (ny, .inl (cI, 10, .inl now.2.1)), (hR, .inr (0, rdv r))]) (run_S (As := [.int p0, .int 0, .int 9999]) (rest := []) C (c_X2_isBetween l D cI cZ p0 0 9999) (va_cwS 3 hts gX2_trim_X2_isBetween rfl rfl rfl (by decide +kernel) ⟨Nat.le_of_ble_eq_true rfl, Nat.le_of_ble_eq_true rfl⟩) hK (hP.sub (ws' := []) [] rfl) (hD.sub (ws' := []) [] (by decide) rfl) rfl hl.1 rfl (Nat.le_of_ble_eq_true rfl) dX2_trim_5 (Nat.zero_le _) (Nat.zero_le _)) hP hD hS hA [] [0, 1, 2, 3, 4] rfl rfl (by decide) (by decide) (fun r u H locs hw hP hD hS => ?_)
  subst hw
  have hP : va_P D classes [(h0, .inr (2, [.ref hn, .ref hi0, .ref hi1, .int kp, .ref hR, .ref hT])), (hn, .inr (1, [.ref nx, .ref ny, .int now.2.2.1, .int now.2.2.2.1, .int now.2.2.2.2])), (nx, .inl (cI, 10, .inl now.1)), (ny, .inl (cI, 10, .inl now.2.1)), (hR, .inr (0, rdv r))] H := hP
  have hD : va_D A [(h0, .inr (2, [.ref hn, .ref hi0, .ref hi1, .int kp, .ref hR, .ref hT])), (hn, .inr (1, [.ref nx, .ref ny, .int now.2.2.1, .int now.2.2.2.1, .int now.2.2.2.2])), (nx, .inl (cI, 10, .inl now.1)), (ny, .inl (cI, 10, .inl now.2.1)), (hR, .inr (0, rdv r))] := hD
  refine lv_if_ne (tgt := 14) hx hb dX2_trim_8 (by decide) (fun c_8 => ?_) (fun c_8 => ?_)
  · refine lv_aload_n hx hb dX2_trim_14 rfl (lv_at hl 0 rfl) ?_
    refine aft_v (wr := []) (run_V (As := []) (rest := []) C (c_X2_layTheRound l D cI cZ h0 hn hi0 hi1 hR hT nx ny now kp r) (cwV 0 hts gX2_trim_X2_layTheRound rfl rfl rfl (by decide +kernel) ⟨Nat.le_of_ble_eq_true rfl, Nat.le_of_ble_eq_true rfl⟩) hK (hP.sub (ws' := [(h0, .inr (2, [.ref hn, .ref hi0, .ref hi1, .int kp, .ref hR, .ref hT])), (hn, .inr (1, [.ref nx, .ref ny, .int now.2.2.1, .int now.2.2.2.1, .int now.2.2.2.2])), (nx, .inl (cI, 10, .inl now.1)), (ny, .inl (cI, 10, .inl now.2.1)), (hR, .inr (0, rdv r))]) [0, 1, 2, 3, 4] rfl) (hD.sub (ws' := [(h0, .inr (2, [.ref hn, .ref hi0, .ref hi1, .int kp, .ref hR, .ref hT])), (hn, .inr (1, [.ref nx, .ref ny, .int now.2.2.1, .int now.2.2.2.1, .int now.2.2.2.2])), (nx, .inl (cI, 10, .inl now.1)), (ny, .inl (cI, 10, .inl now.2.1)), (hR, .inr (0, rdv r))]) [0, 1, 2, 3, 4] (by decide) rfl) 0 2 rfl rfl rfl rfl hl.1 rfl (Nat.le_of_ble_eq_true rfl) dX2_trim_15 (Nat.zero_le _) (Nat.zero_le _)) hP hD hS hA [0, 1, 2, 3, 4] [] rfl rfl (by decide) (by decide) (fun u H locs hw hP hD hS => ?_)
    subst hw
    have hP : va_P D classes [(h0, .inr (2, [.ref hn, .ref hi0, .ref hi1, .int kp, .ref hR, .ref hT])), (hn, .inr (1, [.ref nx, .ref ny, .int now.2.2.1, .int now.2.2.2.1, .int now.2.2.2.2])), (nx, .inl (cI, 10, .inl now.1)), (ny, .inl (cI, 10, .inl now.2.1)), (hR, .inr (0, rdv (F_X2_layTheRound now r)))] H := hP
    have hD : va_D A [(h0, .inr (2, [.ref hn, .ref hi0, .ref hi1, .int kp, .ref hR, .ref hT])), (hn, .inr (1, [.ref nx, .ref ny, .int now.2.2.1, .int now.2.2.2.1, .int now.2.2.2.2])), (nx, .inl (cI, 10, .inl now.1)), (ny, .inl (cI, 10, .inl now.2.1)), (hR, .inr (0, rdv (F_X2_layTheRound now r)))] := hD
    refine lv_aload_n hx hb dX2_trim_18 rfl (lv_at hl 0 rfl) ?_
    refine va_get (D := D) (ci := 2) (v := .ref hR) (C := RX2) (T := TX2) (N := 6) hx hb hts iX2_trim_X2 hown hK.1 hP 0 rfl rfl 4 (by decide) (hts (.fieldLink RX2 29 "CompassBias" "theRound" "LCompassBias$Round;") (List.mem_of_getElem? (i := 1) rfl)) (fun _ h9 => h9) rfl dX2_trim_19 ?_
    refine aft_i (wr := [(h0, .inr (2, [.ref hn, .ref hi0, .ref hi1, .int kp, .ref hR, .ref hT])), (hn, .inr (1, [.ref nx, .ref ny, .int now.2.2.1, .int now.2.2.2.1, .int now.2.2.2.2])), (nx, .inl (cI, 10, .inl now.1)), (ny, .inl (cI, 10, .inl now.2.1))]) (run_V (As := []) (rest := []) C (c_X0_isFlat l D cI cZ hR (F_X2_layTheRound now r)) (cwV 0 hts gX2_trim_X0_isFlat rfl rfl rfl (by decide +kernel) ⟨Nat.le_of_ble_eq_true rfl, Nat.le_of_ble_eq_true rfl⟩) hK (hP.sub (ws' := [(hR, .inr (0, rdv (F_X2_layTheRound now r)))]) [4] rfl) (hD.sub (ws' := [(hR, .inr (0, rdv (F_X2_layTheRound now r)))]) [4] (by decide) rfl) 0 0 rfl rfl rfl rfl hl.1 rfl (Nat.le_of_ble_eq_true rfl) dX2_trim_22 (Nat.zero_le _) (Nat.zero_le _)) hP hD hS hA [4] [0, 1, 2, 3] rfl rfl (by decide) (by decide) (fun r u H locs hw hP hD hS => ?_)
    subst hw
    have hP : va_P D classes [(h0, .inr (2, [.ref hn, .ref hi0, .ref hi1, .int kp, .ref hR, .ref hT])), (hn, .inr (1, [.ref nx, .ref ny, .int now.2.2.1, .int now.2.2.2.1, .int now.2.2.2.2])), (nx, .inl (cI, 10, .inl now.1)), (ny, .inl (cI, 10, .inl now.2.1)), (hR, .inr (0, rdv (F_X2_layTheRound now r)))] H := hP
    have hD : va_D A [(h0, .inr (2, [.ref hn, .ref hi0, .ref hi1, .int kp, .ref hR, .ref hT])), (hn, .inr (1, [.ref nx, .ref ny, .int now.2.2.1, .int now.2.2.2.1, .int now.2.2.2.2])), (nx, .inl (cI, 10, .inl now.1)), (ny, .inl (cI, 10, .inl now.2.1)), (hR, .inr (0, rdv (F_X2_layTheRound now r)))] := hD
    refine lv_if_eq (tgt := 31) hx hb dX2_trim_25 (by decide) (fun c_25 => ?_) (fun c_25 => ?_)
    · refine lv_aload_n hx hb dX2_trim_31 rfl (lv_at hl 0 rfl) ?_
      refine va_get (D := D) (ci := 2) (v := .ref hn) (C := RX2) (T := TX2) (N := 6) hx hb hts iX2_trim_X2 hown hK.1 hP 0 rfl rfl 0 (by decide) (hts (.fieldLink RX2 12 "CompassBias" "now" "LCompassBias$Samples;") (List.mem_of_getElem? (i := 2) rfl)) (fun _ h9 => h9) rfl dX2_trim_32 ?_
      refine va_get (D := D) (ci := 1) (v := .int now.2.2.2.1) (C := RX1) (T := TX1) (N := 5) hx hb hts iX2_trim_X1 hown hK.1 hP 1 rfl rfl 3 (by decide) (hts (.fieldLink RX2 50 "CompassBias$Samples" "taken" "I") (List.mem_of_getElem? (i := 3) rfl)) (fun _ h9 => h9) rfl dX2_trim_35 ?_
      refine aft_i (wr := [(h0, .inr (2, [.ref hn, .ref hi0, .ref hi1, .int kp, .ref hR, .ref hT])), (hn, .inr (1, [.ref nx, .ref ny, .int now.2.2.1, .int now.2.2.2.1, .int now.2.2.2.2])), (nx, .inl (cI, 10, .inl now.1)), (ny, .inl (cI, 10, .inl now.2.1)), (hR, .inr (0, rdv (F_X2_layTheRound now r)))]) (run_S (As := [.int now.2.2.2.1]) (rest := []) C (c_J6_bitCount_0f7a4 l D cI cZ now.2.2.2.1) (va_cwS 1 hts gX2_trim_J6_bitCount_0f7a4 rfl rfl rfl (by decide +kernel) ⟨Nat.le_of_ble_eq_true rfl, Nat.le_of_ble_eq_true rfl⟩) hK (hP.sub (ws' := []) [] rfl) (hD.sub (ws' := []) [] (by decide) rfl) rfl hl.1 rfl (Nat.le_of_ble_eq_true rfl) dX2_trim_38 (Nat.zero_le _) (Nat.zero_le _)) hP hD hS hA [] [0, 1, 2, 3, 4] rfl rfl (by decide) (by decide) (fun r u H locs hw hP hD hS => ?_)
      subst hw
      have hP : va_P D classes [(h0, .inr (2, [.ref hn, .ref hi0, .ref hi1, .int kp, .ref hR, .ref hT])), (hn, .inr (1, [.ref nx, .ref ny, .int now.2.2.1, .int now.2.2.2.1, .int now.2.2.2.2])), (nx, .inl (cI, 10, .inl now.1)), (ny, .inl (cI, 10, .inl now.2.1)), (hR, .inr (0, rdv (F_X2_layTheRound now r)))] H := hP
      have hD : va_D A [(h0, .inr (2, [.ref hn, .ref hi0, .ref hi1, .int kp, .ref hR, .ref hT])), (hn, .inr (1, [.ref nx, .ref ny, .int now.2.2.1, .int now.2.2.2.1, .int now.2.2.2.2])), (nx, .inl (cI, 10, .inl now.1)), (ny, .inl (cI, 10, .inl now.2.1)), (hR, .inr (0, rdv (F_X2_layTheRound now r)))] := hD
      refine lv_istore_n (lv' := [(2, .int (F_J6_bitCount_0f7a4 now.2.2.2.1)), (0, .ref h0), (1, .int p0)]) hx hb dX2_trim_41 rfl hl (by decide) rfl (fun ls hl => ?_)
      refine lv_iconst (v := 0) hx hb dX2_trim_42 (by decide) ?_
      refine lv_istore_n (lv' := [(3, .int 0), (2, .int (F_J6_bitCount_0f7a4 now.2.2.2.1)), (0, .ref h0), (1, .int p0)]) hx hb dX2_trim_43 rfl hl (by decide) rfl (fun ls hl => ?_)
      exact K44 11 0 (F_J6_bitCount_0f7a4 now.2.2.2.1) 0 now (F_X2_layTheRound now r) rfl (by omega) (by omega) (F_X2_trim now r p0) ((if_neg c_8).trans ((if_pos c_25))) _ _ hP hD hS _ (lv_sub hl [2, 3, 1, 0] rfl)
    · refine lv_bipush (v := (-5)) hx hb dX2_trim_28 (by decide) ?_
      exact ret_i C (now, F_X2_layTheRound now r) ((if_neg c_8).trans ((if_neg c_25))) hP hD hS dX2_trim_30
  · refine lv_bipush (v := (-2)) hx hb dX2_trim_11 (by decide) ?_
    exact ret_i C (now, r) (if_pos c_8) hP hD hS dX2_trim_13
def L_X2_helps_65 (now : Sm) : Nat → Int32 → Int32 → Int32 → Rd → Rd → Int32 × Rd
  | 0, _, _, _, _, _ => (0, (0, 0, 0, 0, 0, 0, 0, 0, 0, 0, 0, 0, 0))
  | n + 1, x, y, f, q, z => if 40 < y then ((f, z)) else (if f = 255 then ((f, z)) else (L_X2_helps_65 now n x (y + 1) (f ||| ((F_X2_helpAt now q z x y f).1)) q ((F_X2_helpAt now q z x y f).2)))
def L_X2_helps_56 (now : Sm) : Nat → Int32 → Int32 → Rd → Rd → Int32 × Rd × Rd
  | 0, _, _, _, _ => (0, (0, 0, 0, 0, 0, 0, 0, 0, 0, 0, 0, 0, 0), (0, 0, 0, 0, 0, 0, 0, 0, 0, 0, 0, 0, 0))
  | n + 1, x, f, q, z => if 40 < x then ((f, q, z)) else (L_X2_helps_56 now n (x + 1) ((L_X2_helps_65 now 82 x (-40) f q z).1) q ((L_X2_helps_65 now 82 x (-40) f q z).2))
def F_X2_helps (now : Sm) (r : Rd) (t : Rd) : Int32 × Rd × Rd := if 10 ≤ now.2.2.1 then ((0, r, t)) else (if now.2.2.2.2 ≤ ((F_J6_bitCount_0f7a4 now.2.2.2.1) + 1) then (L_X2_helps_56 now 82 (-40) 0 (F_X2_sumUp now r now.2.2.2.1) t) else ((0, r, t)))
theorem iX2_helps_X1 : ∀ w ∈ u_ws RX1 TX1 5, w ∈ wsX2_helps := fun _ h => List.mem_cons_of_mem _ (List.mem_append_left _ (List.mem_append_right _ (h)))
theorem iX2_helps_X2 : ∀ w ∈ u_ws RX2 TX2 6, w ∈ wsX2_helps := fun _ h => List.mem_cons_of_mem _ (List.mem_append_left _ (List.mem_append_left _ (List.mem_append_right _ (h))))
set_option maxHeartbeats 4000000 in
set_option maxRecDepth 100000 in
theorem c_X2_helps (l : Launch) (D : va_G) (cI cZ : ClassId) (h0 hn hi0 hi1 hR hT nx ny : Nat) (now : Sm) (kp : Int32) (r : Rd) (t : Rd) : CTi l yX2_helps wsX2_helps ({ frames := 4, cells := 0, slots := 0, locals := 93 } : Room) D cI cZ [.ref h0] [(h0, .inr (2, [.ref hn, .ref hi0, .ref hi1, .int kp, .ref hR, .ref hT])), (hn, .inr (1, [.ref nx, .ref ny, .int now.2.2.1, .int now.2.2.2.1, .int now.2.2.2.2])), (nx, .inl (cI, 10, .inl now.1)), (ny, .inl (cI, 10, .inl now.2.1)), (hR, .inr (0, rdv r)), (hT, .inr (0, rdv t))] (S := Rd × Rd) (fun z9 u9 => F_X2_helps now r t = (z9, u9)) (fun u => [(h0, .inr (2, [.ref hn, .ref hi0, .ref hi1, .int kp, .ref hR, .ref hT])), (hn, .inr (1, [.ref nx, .ref ny, .int now.2.2.1, .int now.2.2.2.1, .int now.2.2.2.2])), (nx, .inl (cI, 10, .inl now.1)), (ny, .inl (cI, 10, .inl now.2.1)), (hR, .inr (0, rdv u.1)), (hT, .inr (0, rdv u.2))]) := by
  refine enterM (cc := cX2_helps) (maxL := 4) (ret := (some .int)) (own := RX2) (Qc := fun A => va_Qi (S := Rd × Rd) (fun z9 u9 => F_X2_helps now r t = (z9, u9)) (PoB (S := Rd × Rd) D A (fun u => [(h0, .inr (2, [.ref hn, .ref hi0, .ref hi1, .int kp, .ref hR, .ref hT])), (hn, .inr (1, [.ref nx, .ref ny, .int now.2.2.1, .int now.2.2.2.1, .int now.2.2.2.2])), (nx, .inl (cI, 10, .inl now.1)), (ny, .inl (cI, 10, .inl now.2.1)), (hR, .inr (0, rdv u.1)), (hT, .inr (0, rdv u.2))])) A) (by decide) rfl rfl (Nat.le_of_ble_eq_true rfl) ?_
  intro p e s m below meth c A ls C hK hA hP hD hS hl
  have hx := C.1
  have hb := C.2.1
  have hown := C.2.2.2.1
  have hts := C.2.2.2.2.1
  have _huse := hts
  have K65 : ∀ (Q : State → Prop) (n : Nat) (k : Nat) (x : Int32) (y : Int32) (f : Int32) (q : Rd) (z : Rd) (_ : y.toInt = (k : Int) - 40) (_ : k ≤ 81) (_ : 81 < k + n) (X : Int32 × Rd) (_ : X = L_X2_helps_65 now n x y f q z) (_ : ∀ (H : Heap) (locs : List Loc) (_ : va_P D classes [(h0, .inr (2, [.ref hn, .ref hi0, .ref hi1, .int kp, .ref hR, .ref hT])), (hn, .inr (1, [.ref nx, .ref ny, .int now.2.2.1, .int now.2.2.2.1, .int now.2.2.2.2])), (nx, .inl (cI, 10, .inl now.1)), (ny, .inl (cI, 10, .inl now.2.1)), (hR, .inr (0, rdv q)), (hT, .inr (0, rdv X.2))] H) (_ : va_D A [(h0, .inr (2, [.ref hn, .ref hi0, .ref hi1, .int kp, .ref hR, .ref hT])), (hn, .inr (1, [.ref nx, .ref ny, .int now.2.2.1, .int now.2.2.2.1, .int now.2.2.2.2])), (nx, .inl (cI, 10, .inl now.1)), (ny, .inl (cI, 10, .inl now.2.1)), (hR, .inr (0, rdv q)), (hT, .inr (0, rdv X.2))]) (_ : va_S A s.heap H locs) (ls : Array Slot) (_ : lv_has ls 4 [(0, .ref h0), (1, .int X.1), (2, .int x)]), W p l e ({ frames := 4, cells := 0, slots := 0, locals := 93 } : Room) s m [.ref h0].toArray below meth c H locs 0 0 Q (F0 m 94 ls [])) (H : Heap) (locs : List Loc) (_ : va_P D classes [(h0, .inr (2, [.ref hn, .ref hi0, .ref hi1, .int kp, .ref hR, .ref hT])), (hn, .inr (1, [.ref nx, .ref ny, .int now.2.2.1, .int now.2.2.2.1, .int now.2.2.2.2])), (nx, .inl (cI, 10, .inl now.1)), (ny, .inl (cI, 10, .inl now.2.1)), (hR, .inr (0, rdv q)), (hT, .inr (0, rdv z))] H) (_ : va_D A [(h0, .inr (2, [.ref hn, .ref hi0, .ref hi1, .int kp, .ref hR, .ref hT])), (hn, .inr (1, [.ref nx, .ref ny, .int now.2.2.1, .int now.2.2.2.1, .int now.2.2.2.2])), (nx, .inl (cI, 10, .inl now.1)), (ny, .inl (cI, 10, .inl now.2.1)), (hR, .inr (0, rdv q)), (hT, .inr (0, rdv z))]) (_ : va_S A s.heap H locs) (ls : Array Slot) (_ : lv_has ls 4 [(0, .ref h0), (1, .int f), (2, .int x), (3, .int y)]), W p l e ({ frames := 4, cells := 0, slots := 0, locals := 93 } : Room) s m [.ref h0].toArray below meth c H locs 0 0 Q (F0 m 65 ls []) := by
    intro Q n
    induction n with
    | zero =>
      intro k x y f q z hi hk hfu X hX kont H locs hP hD hS ls hl
      exact absurd hfu (by omega)
    | succ n ih =>
      intro k x y f q z hi hk hfu X hX kont H locs hP hD hS ls hl
      refine lv_iload_n hx hb dX2_helps_65 rfl (lv_at hl 3 rfl) ?_
      refine lv_bipush (v := 40) hx hb dX2_helps_66 (by decide) ?_
      refine lv_icmp_gt (tgt := 94) hx hb dX2_helps_68 (by decide) (fun c_68 => ?_) (fun c_68 => ?_)
      · have e9 : X = (f, z) := hX.trans ((if_pos c_68))
        subst e9
        exact kont _ _ hP hD hS _ (lv_sub hl [0, 1, 2] rfl)
      · refine lv_iload_n hx hb dX2_helps_71 rfl (lv_at hl 1 rfl) ?_
        refine lv_sipush (v := 255) hx hb dX2_helps_72 (by decide) ?_
        refine lv_icmp_eq (tgt := 94) hx hb dX2_helps_75 (by decide) (fun c_75 => ?_) (fun c_75 => ?_)
        · have e9 : X = (f, z) := hX.trans ((if_neg c_68).trans ((if_pos c_75)))
          subst e9
          exact kont _ _ hP hD hS _ (lv_sub hl [0, 1, 2] rfl)
        · refine lv_iload_n hx hb dX2_helps_78 rfl (lv_at hl 1 rfl) ?_
          refine lv_aload_n hx hb dX2_helps_79 rfl (lv_at hl 0 rfl) ?_
          refine lv_iload_n hx hb dX2_helps_80 rfl (lv_at hl 2 rfl) ?_
          refine lv_iload_n hx hb dX2_helps_81 rfl (lv_at hl 3 rfl) ?_
          refine lv_iload_n hx hb dX2_helps_82 rfl (lv_at hl 1 rfl) ?_
          refine aft_i (wr := []) (run_V (As := [.int x, .int y, .int f]) (rest := [.int f]) C (c_X2_helpAt l D cI cZ h0 hn hi0 hi1 hR hT nx ny now kp q z x y f) (cwV 3 hts gX2_helps_X2_helpAt rfl rfl rfl (by decide +kernel) ⟨Nat.le_of_ble_eq_true rfl, Nat.le_of_ble_eq_true rfl⟩) hK (hP.sub (ws' := [(h0, .inr (2, [.ref hn, .ref hi0, .ref hi1, .int kp, .ref hR, .ref hT])), (hn, .inr (1, [.ref nx, .ref ny, .int now.2.2.1, .int now.2.2.2.1, .int now.2.2.2.2])), (nx, .inl (cI, 10, .inl now.1)), (ny, .inl (cI, 10, .inl now.2.1)), (hR, .inr (0, rdv q)), (hT, .inr (0, rdv z))]) [0, 1, 2, 3, 4, 5] rfl) (hD.sub (ws' := [(h0, .inr (2, [.ref hn, .ref hi0, .ref hi1, .int kp, .ref hR, .ref hT])), (hn, .inr (1, [.ref nx, .ref ny, .int now.2.2.1, .int now.2.2.2.1, .int now.2.2.2.2])), (nx, .inl (cI, 10, .inl now.1)), (ny, .inl (cI, 10, .inl now.2.1)), (hR, .inr (0, rdv q)), (hT, .inr (0, rdv z))]) [0, 1, 2, 3, 4, 5] (by decide) rfl) 0 2 rfl rfl rfl rfl hl.1 rfl (Nat.le_of_ble_eq_true rfl) dX2_helps_83 (Nat.zero_le _) (Nat.zero_le _)) hP hD hS hA [0, 1, 2, 3, 4, 5] [] rfl rfl (by decide) (by decide) (fun r u H locs hw hP hD hS => ?_)
          obtain ⟨rfl, rfl⟩ : (F_X2_helpAt now q z x y f).1 = r ∧ (F_X2_helpAt now q z x y f).2 = u := by rw [hw]; exact ⟨rfl, rfl⟩
          have hP : va_P D classes [(h0, .inr (2, [.ref hn, .ref hi0, .ref hi1, .int kp, .ref hR, .ref hT])), (hn, .inr (1, [.ref nx, .ref ny, .int now.2.2.1, .int now.2.2.2.1, .int now.2.2.2.2])), (nx, .inl (cI, 10, .inl now.1)), (ny, .inl (cI, 10, .inl now.2.1)), (hR, .inr (0, rdv q)), (hT, .inr (0, rdv ((F_X2_helpAt now q z x y f).2)))] H := hP
          have hD : va_D A [(h0, .inr (2, [.ref hn, .ref hi0, .ref hi1, .int kp, .ref hR, .ref hT])), (hn, .inr (1, [.ref nx, .ref ny, .int now.2.2.1, .int now.2.2.2.1, .int now.2.2.2.2])), (nx, .inl (cI, 10, .inl now.1)), (ny, .inl (cI, 10, .inl now.2.1)), (hR, .inr (0, rdv q)), (hT, .inr (0, rdv ((F_X2_helpAt now q z x y f).2)))] := hD
          refine lv_ior hx hb dX2_helps_86 ?_
          refine lv_istore_n (lv' := [(1, .int (f ||| ((F_X2_helpAt now q z x y f).1))), (0, .ref h0), (2, .int x), (3, .int y)]) hx hb dX2_helps_87 rfl hl (by decide) rfl (fun ls hl => ?_)
          refine lv_iinc (v := y + 1) (lv' := [(3, .int (y + 1)), (1, .int (f ||| ((F_X2_helpAt now q z x y f).1))), (0, .ref h0), (2, .int x)]) hx hb dX2_helps_88 hl (k := 3) rfl rfl (by decide) rfl (fun ls hl => ?_)
          refine lv_goto (tgt := 65) hx hb dX2_helps_91 (by decide) ?_
          exact ih (k + 1) x (y + 1) (f ||| ((F_X2_helpAt now q z x y f).1)) q ((F_X2_helpAt now q z x y f).2) (i_succ40 hi (by omega)) (i_le40 hi c_68) (by omega) X (hX.trans ((if_neg c_68).trans ((if_neg c_75)))) kont _ _ hP hD hS _ (lv_sub hl [2, 1, 3, 0] rfl)
  have K56 : ∀ (n : Nat) (k : Nat) (x : Int32) (f : Int32) (q : Rd) (z : Rd) (_ : x.toInt = (k : Int) - 40) (_ : k ≤ 81) (_ : 81 < k + n) (X : Int32 × Rd × Rd) (_ : X = L_X2_helps_56 now n x f q z) (H : Heap) (locs : List Loc) (_ : va_P D classes [(h0, .inr (2, [.ref hn, .ref hi0, .ref hi1, .int kp, .ref hR, .ref hT])), (hn, .inr (1, [.ref nx, .ref ny, .int now.2.2.1, .int now.2.2.2.1, .int now.2.2.2.2])), (nx, .inl (cI, 10, .inl now.1)), (ny, .inl (cI, 10, .inl now.2.1)), (hR, .inr (0, rdv q)), (hT, .inr (0, rdv z))] H) (_ : va_D A [(h0, .inr (2, [.ref hn, .ref hi0, .ref hi1, .int kp, .ref hR, .ref hT])), (hn, .inr (1, [.ref nx, .ref ny, .int now.2.2.1, .int now.2.2.2.1, .int now.2.2.2.2])), (nx, .inl (cI, 10, .inl now.1)), (ny, .inl (cI, 10, .inl now.2.1)), (hR, .inr (0, rdv q)), (hT, .inr (0, rdv z))]) (_ : va_S A s.heap H locs) (ls : Array Slot) (_ : lv_has ls 4 [(0, .ref h0), (1, .int f), (2, .int x)]), W p l e ({ frames := 4, cells := 0, slots := 0, locals := 93 } : Room) s m [.ref h0].toArray below meth c H locs 0 0 (MQ below (va_Qi (S := Rd × Rd) (fun z9 u9 => X = (z9, u9)) (PoB (S := Rd × Rd) D A (fun u => [(h0, .inr (2, [.ref hn, .ref hi0, .ref hi1, .int kp, .ref hR, .ref hT])), (hn, .inr (1, [.ref nx, .ref ny, .int now.2.2.1, .int now.2.2.2.1, .int now.2.2.2.2])), (nx, .inl (cI, 10, .inl now.1)), (ny, .inl (cI, 10, .inl now.2.1)), (hR, .inr (0, rdv u.1)), (hT, .inr (0, rdv u.2))])) A) [.ref h0].toArray s 0 0 A) (F0 m 56 ls []) := by
    intro n
    induction n with
    | zero =>
      intro k x f q z hi hk hfu X hX H locs hP hD hS ls hl
      exact absurd hfu (by omega)
    | succ n ih =>
      intro k x f q z hi hk hfu X hX H locs hP hD hS ls hl
      refine lv_iload_n hx hb dX2_helps_56 rfl (lv_at hl 2 rfl) ?_
      refine lv_bipush (v := 40) hx hb dX2_helps_57 (by decide) ?_
      refine lv_icmp_gt (tgt := 100) hx hb dX2_helps_59 (by decide) (fun c_59 => ?_) (fun c_59 => ?_)
      · refine lv_iload_n hx hb dX2_helps_100 rfl (lv_at hl 1 rfl) ?_
        exact ret_i C (q, z) (hX.trans ((if_pos c_59))) hP hD hS dX2_helps_101
      · refine lv_bipush (v := (-40)) hx hb dX2_helps_62 (by decide) ?_
        refine lv_istore_n (lv' := [(3, .int (-40)), (0, .ref h0), (1, .int f), (2, .int x)]) hx hb dX2_helps_64 rfl hl (by decide) rfl (fun ls hl => ?_)
        refine K65 _ 82 0 x (-40) f q z (by decide) (by omega) (by omega) _ rfl (fun H locs hP hD hS ls hl => ?_) _ _ hP hD hS _ (lv_sub hl [1, 2, 3, 0] rfl)
        have hl : lv_has ls 4 [(0, .ref h0), (1, .int ((L_X2_helps_65 now 82 x (-40) f q z).1)), (2, .int x)] := hl
        have hP : va_P D classes [(h0, .inr (2, [.ref hn, .ref hi0, .ref hi1, .int kp, .ref hR, .ref hT])), (hn, .inr (1, [.ref nx, .ref ny, .int now.2.2.1, .int now.2.2.2.1, .int now.2.2.2.2])), (nx, .inl (cI, 10, .inl now.1)), (ny, .inl (cI, 10, .inl now.2.1)), (hR, .inr (0, rdv q)), (hT, .inr (0, rdv ((L_X2_helps_65 now 82 x (-40) f q z).2)))] H := hP
        have hD : va_D A [(h0, .inr (2, [.ref hn, .ref hi0, .ref hi1, .int kp, .ref hR, .ref hT])), (hn, .inr (1, [.ref nx, .ref ny, .int now.2.2.1, .int now.2.2.2.1, .int now.2.2.2.2])), (nx, .inl (cI, 10, .inl now.1)), (ny, .inl (cI, 10, .inl now.2.1)), (hR, .inr (0, rdv q)), (hT, .inr (0, rdv ((L_X2_helps_65 now 82 x (-40) f q z).2)))] := hD
        refine lv_iinc (v := x + 1) (lv' := [(2, .int (x + 1)), (0, .ref h0), (1, .int ((L_X2_helps_65 now 82 x (-40) f q z).1))]) hx hb dX2_helps_94 hl (k := 2) rfl rfl (by decide) rfl (fun ls hl => ?_)
        refine lv_goto (tgt := 56) hx hb dX2_helps_97 (by decide) ?_
        exact ih (k + 1) (x + 1) ((L_X2_helps_65 now 82 x (-40) f q z).1) q ((L_X2_helps_65 now 82 x (-40) f q z).2) (i_succ40 hi (by omega)) (i_le40 hi c_59) (by omega) X (hX.trans ((if_neg c_59))) _ _ hP hD hS _ (lv_sub hl [1, 2, 0] rfl)
  have hl : lv_has ls 4 [(0, .ref h0)] := hl
  refine lv_aload_n hx hb dX2_helps_0 rfl (lv_at hl 0 rfl) ?_
  refine va_get (D := D) (ci := 2) (v := .ref hn) (C := RX2) (T := TX2) (N := 6) hx hb hts iX2_helps_X2 hown hK.1 hP 0 rfl rfl 0 (by decide) (hts (.fieldLink RX2 12 "CompassBias" "now" "LCompassBias$Samples;") (List.mem_of_getElem? (i := 1) rfl)) (fun _ h9 => h9) rfl dX2_helps_1 ?_
  refine va_get (D := D) (ci := 1) (v := .int now.2.2.1) (C := RX1) (T := TX1) (N := 5) hx hb hts iX2_helps_X1 hown hK.1 hP 1 rfl rfl 2 (by decide) (hts (.fieldLink RX2 40 "CompassBias$Samples" "many" "I") (List.mem_of_getElem? (i := 2) rfl)) (fun _ h9 => h9) rfl dX2_helps_4 ?_
  refine lv_bipush (v := 10) hx hb dX2_helps_7 (by decide) ?_
  refine lv_icmp_ge (tgt := 34) hx hb dX2_helps_9 (by decide) (fun c_9 => ?_) (fun c_9 => ?_)
  · refine lv_iconst (v := 0) hx hb dX2_helps_34 (by decide) ?_
    exact ret_i C (r, t) (if_pos c_9) hP hD hS dX2_helps_35
  · refine lv_aload_n hx hb dX2_helps_12 rfl (lv_at hl 0 rfl) ?_
    refine va_get (D := D) (ci := 2) (v := .ref hn) (C := RX2) (T := TX2) (N := 6) hx hb hts iX2_helps_X2 hown hK.1 hP 0 rfl rfl 0 (by decide) (hts (.fieldLink RX2 12 "CompassBias" "now" "LCompassBias$Samples;") (List.mem_of_getElem? (i := 1) rfl)) (fun _ h9 => h9) rfl dX2_helps_13 ?_
    refine va_get (D := D) (ci := 1) (v := .int now.2.2.2.1) (C := RX1) (T := TX1) (N := 5) hx hb hts iX2_helps_X1 hown hK.1 hP 1 rfl rfl 3 (by decide) (hts (.fieldLink RX2 50 "CompassBias$Samples" "taken" "I") (List.mem_of_getElem? (i := 3) rfl)) (fun _ h9 => h9) rfl dX2_helps_16 ?_
    refine aft_i (wr := [(h0, .inr (2, [.ref hn, .ref hi0, .ref hi1, .int kp, .ref hR, .ref hT])), (hn, .inr (1, [.ref nx, .ref ny, .int now.2.2.1, .int now.2.2.2.1, .int now.2.2.2.2])), (nx, .inl (cI, 10, .inl now.1)), (ny, .inl (cI, 10, .inl now.2.1)), (hR, .inr (0, rdv r)), (hT, .inr (0, rdv t))]) (run_S (As := [.int now.2.2.2.1]) (rest := []) C (c_J6_bitCount_0f7a4 l D cI cZ now.2.2.2.1) (va_cwS 1 hts gX2_helps_J6_bitCount_0f7a4 rfl rfl rfl (by decide +kernel) ⟨Nat.le_of_ble_eq_true rfl, Nat.le_of_ble_eq_true rfl⟩) hK (hP.sub (ws' := []) [] rfl) (hD.sub (ws' := []) [] (by decide) rfl) rfl hl.1 rfl (Nat.le_of_ble_eq_true rfl) dX2_helps_19 (Nat.zero_le _) (Nat.zero_le _)) hP hD hS hA [] [0, 1, 2, 3, 4, 5] rfl rfl (by decide) (by decide) (fun r u H locs hw hP hD hS => ?_)
    subst hw
    have hP : va_P D classes [(h0, .inr (2, [.ref hn, .ref hi0, .ref hi1, .int kp, .ref hR, .ref hT])), (hn, .inr (1, [.ref nx, .ref ny, .int now.2.2.1, .int now.2.2.2.1, .int now.2.2.2.2])), (nx, .inl (cI, 10, .inl now.1)), (ny, .inl (cI, 10, .inl now.2.1)), (hR, .inr (0, rdv r)), (hT, .inr (0, rdv t))] H := hP
    have hD : va_D A [(h0, .inr (2, [.ref hn, .ref hi0, .ref hi1, .int kp, .ref hR, .ref hT])), (hn, .inr (1, [.ref nx, .ref ny, .int now.2.2.1, .int now.2.2.2.1, .int now.2.2.2.2])), (nx, .inl (cI, 10, .inl now.1)), (ny, .inl (cI, 10, .inl now.2.1)), (hR, .inr (0, rdv r)), (hT, .inr (0, rdv t))] := hD
    refine lv_iconst (v := 1) hx hb dX2_helps_22 (by decide) ?_
    refine lv_iadd hx hb dX2_helps_23 ?_
    refine lv_aload_n hx hb dX2_helps_24 rfl (lv_at hl 0 rfl) ?_
    refine va_get (D := D) (ci := 2) (v := .ref hn) (C := RX2) (T := TX2) (N := 6) hx hb hts iX2_helps_X2 hown hK.1 hP 0 rfl rfl 0 (by decide) (hts (.fieldLink RX2 12 "CompassBias" "now" "LCompassBias$Samples;") (List.mem_of_getElem? (i := 1) rfl)) (fun _ h9 => h9) rfl dX2_helps_25 ?_
    refine va_get (D := D) (ci := 1) (v := .int now.2.2.2.2) (C := RX1) (T := TX1) (N := 5) hx hb hts iX2_helps_X1 hown hK.1 hP 1 rfl rfl 4 (by decide) (hts (.fieldLink RX2 122 "CompassBias$Samples" "needed" "I") (List.mem_of_getElem? (i := 4) rfl)) (fun _ h9 => h9) rfl dX2_helps_28 ?_
    refine lv_icmp_ge (tgt := 36) hx hb dX2_helps_31 (by decide) (fun c_31 => ?_) (fun c_31 => ?_)
    · refine lv_aload_n hx hb dX2_helps_36 rfl (lv_at hl 0 rfl) ?_
      refine lv_aload_n hx hb dX2_helps_37 rfl (lv_at hl 0 rfl) ?_
      refine va_get (D := D) (ci := 2) (v := .ref hR) (C := RX2) (T := TX2) (N := 6) hx hb hts iX2_helps_X2 hown hK.1 hP 0 rfl rfl 4 (by decide) (hts (.fieldLink RX2 29 "CompassBias" "theRound" "LCompassBias$Round;") (List.mem_of_getElem? (i := 5) rfl)) (fun _ h9 => h9) rfl dX2_helps_38 ?_
      refine lv_aload_n hx hb dX2_helps_41 rfl (lv_at hl 0 rfl) ?_
      refine va_get (D := D) (ci := 2) (v := .ref hn) (C := RX2) (T := TX2) (N := 6) hx hb hts iX2_helps_X2 hown hK.1 hP 0 rfl rfl 0 (by decide) (hts (.fieldLink RX2 12 "CompassBias" "now" "LCompassBias$Samples;") (List.mem_of_getElem? (i := 1) rfl)) (fun _ h9 => h9) rfl dX2_helps_42 ?_
      refine va_get (D := D) (ci := 1) (v := .int now.2.2.2.1) (C := RX1) (T := TX1) (N := 5) hx hb hts iX2_helps_X1 hown hK.1 hP 1 rfl rfl 3 (by decide) (hts (.fieldLink RX2 50 "CompassBias$Samples" "taken" "I") (List.mem_of_getElem? (i := 3) rfl)) (fun _ h9 => h9) rfl dX2_helps_45 ?_
      refine aft_v (wr := [(hT, .inr (0, rdv t))]) (run_V (As := [.ref hR, .int now.2.2.2.1]) (rest := []) C (c_X2_sumUp l D cI cZ h0 hR hn hi0 hi1 hR hT nx ny now kp r now.2.2.2.1) (cwV 2 hts gX2_helps_X2_sumUp rfl rfl rfl (by decide +kernel) ⟨Nat.le_of_ble_eq_true rfl, Nat.le_of_ble_eq_true rfl⟩) hK (hP.sub (ws' := [(h0, .inr (2, [.ref hn, .ref hi0, .ref hi1, .int kp, .ref hR, .ref hT])), (hn, .inr (1, [.ref nx, .ref ny, .int now.2.2.1, .int now.2.2.2.1, .int now.2.2.2.2])), (nx, .inl (cI, 10, .inl now.1)), (ny, .inl (cI, 10, .inl now.2.1)), (hR, .inr (0, rdv r))]) [0, 1, 2, 3, 4] rfl) (hD.sub (ws' := [(h0, .inr (2, [.ref hn, .ref hi0, .ref hi1, .int kp, .ref hR, .ref hT])), (hn, .inr (1, [.ref nx, .ref ny, .int now.2.2.1, .int now.2.2.2.1, .int now.2.2.2.2])), (nx, .inl (cI, 10, .inl now.1)), (ny, .inl (cI, 10, .inl now.2.1)), (hR, .inr (0, rdv r))]) [0, 1, 2, 3, 4] (by decide) rfl) 0 2 rfl rfl rfl rfl hl.1 rfl (Nat.le_of_ble_eq_true rfl) dX2_helps_48 (Nat.zero_le _) (Nat.zero_le _)) hP hD hS hA [0, 1, 2, 3, 4] [5] rfl rfl (by decide) (by decide) (fun u H locs hw hP hD hS => ?_)
      subst hw
      have hP : va_P D classes [(hT, .inr (0, rdv t)), (h0, .inr (2, [.ref hn, .ref hi0, .ref hi1, .int kp, .ref hR, .ref hT])), (hn, .inr (1, [.ref nx, .ref ny, .int now.2.2.1, .int now.2.2.2.1, .int now.2.2.2.2])), (nx, .inl (cI, 10, .inl now.1)), (ny, .inl (cI, 10, .inl now.2.1)), (hR, .inr (0, rdv (F_X2_sumUp now r now.2.2.2.1)))] H := hP
      have hD : va_D A [(hT, .inr (0, rdv t)), (h0, .inr (2, [.ref hn, .ref hi0, .ref hi1, .int kp, .ref hR, .ref hT])), (hn, .inr (1, [.ref nx, .ref ny, .int now.2.2.1, .int now.2.2.2.1, .int now.2.2.2.2])), (nx, .inl (cI, 10, .inl now.1)), (ny, .inl (cI, 10, .inl now.2.1)), (hR, .inr (0, rdv (F_X2_sumUp now r now.2.2.2.1)))] := hD
      refine lv_iconst (v := 0) hx hb dX2_helps_51 (by decide) ?_
      refine lv_istore_n (lv' := [(1, .int 0), (0, .ref h0)]) hx hb dX2_helps_52 rfl hl (by decide) rfl (fun ls hl => ?_)
      refine lv_bipush (v := (-40)) hx hb dX2_helps_53 (by decide) ?_
      refine lv_istore_n (lv' := [(2, .int (-40)), (1, .int 0), (0, .ref h0)]) hx hb dX2_helps_55 rfl hl (by decide) rfl (fun ls hl => ?_)
      exact K56 82 0 (-40) 0 (F_X2_sumUp now r now.2.2.2.1) t (by decide) (by omega) (by omega) (F_X2_helps now r t) ((if_neg c_9).trans ((if_pos c_31))) _ _ (hP.sub (ws' := [(h0, .inr (2, [.ref hn, .ref hi0, .ref hi1, .int kp, .ref hR, .ref hT])), (hn, .inr (1, [.ref nx, .ref ny, .int now.2.2.1, .int now.2.2.2.1, .int now.2.2.2.2])), (nx, .inl (cI, 10, .inl now.1)), (ny, .inl (cI, 10, .inl now.2.1)), (hR, .inr (0, rdv (F_X2_sumUp now r now.2.2.2.1))), (hT, .inr (0, rdv t))]) [1, 2, 3, 4, 5, 0] rfl) (hD.sub (ws' := [(h0, .inr (2, [.ref hn, .ref hi0, .ref hi1, .int kp, .ref hR, .ref hT])), (hn, .inr (1, [.ref nx, .ref ny, .int now.2.2.1, .int now.2.2.2.1, .int now.2.2.2.2])), (nx, .inl (cI, 10, .inl now.1)), (ny, .inl (cI, 10, .inl now.2.1)), (hR, .inr (0, rdv (F_X2_sumUp now r now.2.2.2.1))), (hT, .inr (0, rdv t))]) [1, 2, 3, 4, 5, 0] (by decide) rfl) hS _ (lv_sub hl [2, 1, 0] rfl)
    · refine lv_iconst (v := 0) hx hb dX2_helps_34 (by decide) ?_
      exact ret_i C (r, t) ((if_neg c_9).trans ((if_neg c_31))) hP hD hS dX2_helps_35
end
