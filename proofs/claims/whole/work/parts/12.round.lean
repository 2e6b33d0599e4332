def F_X2_powerAt (p0 : Int32) (p1 : Int32) : Int32 := (p0 * p0) + (p1 * p1)
set_option maxHeartbeats 4000000 in
set_option maxRecDepth 100000 in
theorem c_X2_powerAt (l : Launch) (D : va_G) (cI cZ : ClassId) (p0 : Int32) (p1 : Int32) : CTi l yX2_powerAt wsX2_powerAt ({ frames := 0, cells := 0, slots := 0, locals := 0 } : Room) D cI cZ [.int p0, .int p1] [] (S := Unit) (fun z9 _ => F_X2_powerAt p0 p1 = z9) (fun _ => []) := by
  refine enterM (cc := cX2_powerAt) (maxL := 2) (ret := (some .int)) (own := RX2) (Qc := fun A => va_Qi (S := Unit) (fun z9 _ => F_X2_powerAt p0 p1 = z9) (PoB (S := Unit) D A (fun _ => [])) A) (by decide) rfl rfl (Nat.le_of_ble_eq_true rfl) ?_
  intro p e s m below meth c A ls C hK hA hP hD hS hl
  have hx := C.1
  have hb := C.2.1
  have hown := C.2.2.2.1
  have hts := C.2.2.2.2.1
  have _huse := hts
  have hl : lv_has ls 2 [(0, .int p0), (1, .int p1)] := hl
  refine lv_iload_n hx hb dX2_powerAt_0 rfl (lv_at hl 0 rfl) ?_
  refine lv_iload_n hx hb dX2_powerAt_1 rfl (lv_at hl 0 rfl) ?_
  refine lv_imul hx hb dX2_powerAt_2 ?_
  refine lv_iload_n hx hb dX2_powerAt_3 rfl (lv_at hl 1 rfl) ?_
  refine lv_iload_n hx hb dX2_powerAt_4 rfl (lv_at hl 1 rfl) ?_
  refine lv_imul hx hb dX2_powerAt_5 ?_
  refine lv_iadd hx hb dX2_powerAt_6 ?_
  exact ret_i C () rfl hP hD hS dX2_powerAt_7
def F_X2_isBetween (p0 : Int32) (p1 : Int32) (p2 : Int32) : Int32 := if p0 < p1 then (0) else (if p2 < p0 then (0) else (1))
set_option maxHeartbeats 4000000 in
set_option maxRecDepth 100000 in
theorem c_X2_isBetween (l : Launch) (D : va_G) (cI cZ : ClassId) (p0 : Int32) (p1 : Int32) (p2 : Int32) : CTi l yX2_isBetween wsX2_isBetween ({ frames := 0, cells := 0, slots := 0, locals := 0 } : Room) D cI cZ [.int p0, .int p1, .int p2] [] (S := Unit) (fun z9 _ => F_X2_isBetween p0 p1 p2 = z9) (fun _ => []) := by
  refine enterM (cc := cX2_isBetween) (maxL := 3) (ret := (some .boolean)) (own := RX2) (Qc := fun A => va_Qi (S := Unit) (fun z9 _ => F_X2_isBetween p0 p1 p2 = z9) (PoB (S := Unit) D A (fun _ => [])) A) (by decide) rfl rfl (Nat.le_of_ble_eq_true rfl) ?_
  intro p e s m below meth c A ls C hK hA hP hD hS hl
  have hx := C.1
  have hb := C.2.1
  have hown := C.2.2.2.1
  have hts := C.2.2.2.2.1
  have _huse := hts
  have hl : lv_has ls 3 [(0, .int p0), (1, .int p1), (2, .int p2)] := hl
  refine lv_iload_n hx hb dX2_isBetween_0 rfl (lv_at hl 0 rfl) ?_
  refine lv_iload_n hx hb dX2_isBetween_1 rfl (lv_at hl 1 rfl) ?_
  refine lv_icmp_lt (tgt := 14) hx hb dX2_isBetween_2 (by decide) (fun c_2 => ?_) (fun c_2 => ?_)
  · refine lv_iconst (v := 0) hx hb dX2_isBetween_14 (by decide) ?_
    exact ret_z C (Or.inl rfl) () (if_pos c_2) hP hD hS dX2_isBetween_15
  · refine lv_iload_n hx hb dX2_isBetween_5 rfl (lv_at hl 0 rfl) ?_
    refine lv_iload_n hx hb dX2_isBetween_6 rfl (lv_at hl 2 rfl) ?_
    refine lv_icmp_gt (tgt := 14) hx hb dX2_isBetween_7 (by decide) (fun c_7 => ?_) (fun c_7 => ?_)
    · refine lv_iconst (v := 0) hx hb dX2_isBetween_14 (by decide) ?_
      exact ret_z C (Or.inl rfl) () ((if_neg c_2).trans ((if_pos c_7))) hP hD hS dX2_isBetween_15
    · refine lv_iconst (v := 1) hx hb dX2_isBetween_10 (by decide) ?_
      refine lv_goto (tgt := 15) hx hb dX2_isBetween_11 (by decide) ?_
      exact ret_z C (Or.inr rfl) () ((if_neg c_2).trans ((if_neg c_7))) hP hD hS dX2_isBetween_15
def F_X2_isPlace (p0 : Int32) (p1 : Int32) : Int32 := if (F_X2_isBetween p0 (-40) 40) = 0 then (0) else (if (F_X2_isBetween p1 (-40) 40) = 0 then (0) else (1))
set_option maxHeartbeats 4000000 in
set_option maxRecDepth 100000 in
theorem c_X2_isPlace (l : Launch) (D : va_G) (cI cZ : ClassId) (p0 : Int32) (p1 : Int32) : CTi l yX2_isPlace wsX2_isPlace ({ frames := 1, cells := 0, slots := 0, locals := 22 } : Room) D cI cZ [.int p0, .int p1] [] (S := Unit) (fun z9 _ => F_X2_isPlace p0 p1 = z9) (fun _ => []) := by
  refine enterM (cc := cX2_isPlace) (maxL := 2) (ret := (some .boolean)) (own := RX2) (Qc := fun A => va_Qi (S := Unit) (fun z9 _ => F_X2_isPlace p0 p1 = z9) (PoB (S := Unit) D A (fun _ => [])) A) (by decide) rfl rfl (Nat.le_of_ble_eq_true rfl) ?_
  intro p e s m below meth c A ls C hK hA hP hD hS hl
  have hx := C.1
  have hb := C.2.1
  have hown := C.2.2.2.1
  have hts := C.2.2.2.2.1
  have _huse := hts
  have hl : lv_has ls 2 [(0, .int p0), (1, .int p1)] := hl
  refine lv_iload_n hx hb dX2_isPlace_0 rfl (lv_at hl 0 rfl) ?_
  refine lv_bipush (v := (-40)) hx hb dX2_isPlace_1 (by decide) ?_
  refine lv_bipush (v := 40) hx hb dX2_isPlace_3 (by decide) ?_
  refine aft_i (wr := []) (run_S (As := [.int p0, .int (-40), .int 40]) (rest := []) C (c_X2_isBetween l D cI cZ p0 (-40) 40) (va_cwS 3 hts gX2_isPlace_X2_isBetween rfl rfl rfl (by decide +kernel) ⟨Nat.le_of_ble_eq_true rfl, Nat.le_of_ble_eq_true rfl⟩) hK (hP.sub (ws' := []) [] rfl) (hD.sub (ws' := []) [] (by decide) rfl) rfl hl.1 rfl (Nat.le_of_ble_eq_true rfl) dX2_isPlace_5 (Nat.zero_le _) (Nat.zero_le _)) hP hD hS hA [] [] rfl rfl (by decide) (by decide) (fun z9 u9 H locs hw hP hD hS => ?_)
  subst hw
  have hP : va_P D classes [] H := hP
  have hD : va_D A [] := hD
  refine lv_if_eq (tgt := 26) hx hb dX2_isPlace_8 (by decide) (fun c_8 => ?_) (fun c_8 => ?_)
  · refine lv_iconst (v := 0) hx hb dX2_isPlace_26 (by decide) ?_
    exact ret_z C (Or.inl rfl) () (if_pos c_8) hP hD hS dX2_isPlace_27
  · refine lv_iload_n hx hb dX2_isPlace_11 rfl (lv_at hl 1 rfl) ?_
    refine lv_bipush (v := (-40)) hx hb dX2_isPlace_12 (by decide) ?_
    refine lv_bipush (v := 40) hx hb dX2_isPlace_14 (by decide) ?_
    refine aft_i (wr := []) (run_S (As := [.int p1, .int (-40), .int 40]) (rest := []) C (c_X2_isBetween l D cI cZ p1 (-40) 40) (va_cwS 3 hts gX2_isPlace_X2_isBetween rfl rfl rfl (by decide +kernel) ⟨Nat.le_of_ble_eq_true rfl, Nat.le_of_ble_eq_true rfl⟩) hK (hP.sub (ws' := []) [] rfl) (hD.sub (ws' := []) [] (by decide) rfl) rfl hl.1 rfl (Nat.le_of_ble_eq_true rfl) dX2_isPlace_16 (Nat.zero_le _) (Nat.zero_le _)) hP hD hS hA [] [] rfl rfl (by decide) (by decide) (fun z9 u9 H locs hw hP hD hS => ?_)
    subst hw
    have hP : va_P D classes [] H := hP
    have hD : va_D A [] := hD
    refine lv_if_eq (tgt := 26) hx hb dX2_isPlace_19 (by decide) (fun c_19 => ?_) (fun c_19 => ?_)
    · refine lv_iconst (v := 0) hx hb dX2_isPlace_26 (by decide) ?_
      exact ret_z C (Or.inl rfl) () ((if_neg c_8).trans ((if_pos c_19))) hP hD hS dX2_isPlace_27
    · refine lv_iconst (v := 1) hx hb dX2_isPlace_22 (by decide) ?_
      refine lv_goto (tgt := 27) hx hb dX2_isPlace_23 (by decide) ?_
      exact ret_z C (Or.inr rfl) () ((if_neg c_8).trans ((if_neg c_19))) hP hD hS dX2_isPlace_27
def F_X2_isIn (p0 : Int32) (p1 : Int32) : Int32 := if ((p0 >>> (p1 &&& 31)) &&& 1) = 1 then (1) else (0)
set_option maxHeartbeats 4000000 in
set_option maxRecDepth 100000 in
theorem c_X2_isIn (l : Launch) (D : va_G) (cI cZ : ClassId) (p0 : Int32) (p1 : Int32) : CTi l yX2_isIn wsX2_isIn ({ frames := 0, cells := 0, slots := 0, locals := 0 } : Room) D cI cZ [.int p0, .int p1] [] (S := Unit) (fun z9 _ => F_X2_isIn p0 p1 = z9) (fun _ => []) := by
  refine enterM (cc := cX2_isIn) (maxL := 2) (ret := (some .boolean)) (own := RX2) (Qc := fun A => va_Qi (S := Unit) (fun z9 _ => F_X2_isIn p0 p1 = z9) (PoB (S := Unit) D A (fun _ => [])) A) (by decide) rfl rfl (Nat.le_of_ble_eq_true rfl) ?_
  intro p e s m below meth c A ls C hK hA hP hD hS hl
  have hx := C.1
  have hb := C.2.1
  have hown := C.2.2.2.1
  have hts := C.2.2.2.2.1
  have _huse := hts
  have hl : lv_has ls 2 [(0, .int p0), (1, .int p1)] := hl
  refine lv_iload_n hx hb dX2_isIn_0 rfl (lv_at hl 0 rfl) ?_
  refine lv_iload_n hx hb dX2_isIn_1 rfl (lv_at hl 1 rfl) ?_
  refine lv_ishr hx hb dX2_isIn_2 ?_
  refine lv_iconst (v := 1) hx hb dX2_isIn_3 (by decide) ?_
  refine lv_iand hx hb dX2_isIn_4 ?_
  refine lv_iconst (v := 1) hx hb dX2_isIn_5 (by decide) ?_
  refine lv_icmp_ne (tgt := 13) hx hb dX2_isIn_6 (by decide) (fun c_6 => ?_) (fun c_6 => ?_)
  · refine lv_iconst (v := 0) hx hb dX2_isIn_13 (by decide) ?_
    exact ret_z C (Or.inl rfl) () (if_neg c_6) hP hD hS dX2_isIn_14
  · refine lv_iconst (v := 1) hx hb dX2_isIn_9 (by decide) ?_
    refine lv_goto (tgt := 14) hx hb dX2_isIn_10 (by decide) ?_
    exact ret_z C (Or.inr rfl) () (if_pos c_6) hP hD hS dX2_isIn_14
def F_X2_setOfEighth (p0 : Int32) : Int32 := if p0 < 0 then (0) else (1 <<< (p0 &&& 31))
set_option maxHeartbeats 4000000 in
set_option maxRecDepth 100000 in
theorem c_X2_setOfEighth (l : Launch) (D : va_G) (cI cZ : ClassId) (p0 : Int32) : CTi l yX2_setOfEighth wsX2_setOfEighth ({ frames := 0, cells := 0, slots := 0, locals := 0 } : Room) D cI cZ [.int p0] [] (S := Unit) (fun z9 _ => F_X2_setOfEighth p0 = z9) (fun _ => []) := by
  refine enterM (cc := cX2_setOfEighth) (maxL := 1) (ret := (some .int)) (own := RX2) (Qc := fun A => va_Qi (S := Unit) (fun z9 _ => F_X2_setOfEighth p0 = z9) (PoB (S := Unit) D A (fun _ => [])) A) (by decide) rfl rfl (Nat.le_of_ble_eq_true rfl) ?_
  intro p e s m below meth c A ls C hK hA hP hD hS hl
  have hx := C.1
  have hb := C.2.1
  have hown := C.2.2.2.1
  have hts := C.2.2.2.2.1
  have _huse := hts
  have hl : lv_has ls 1 [(0, .int p0)] := hl
  refine lv_iload_n hx hb dX2_setOfEighth_0 rfl (lv_at hl 0 rfl) ?_
  refine lv_if_lt (tgt := 10) hx hb dX2_setOfEighth_1 (by decide) (fun c_1 => ?_) (fun c_1 => ?_)
  · refine lv_iconst (v := 0) hx hb dX2_setOfEighth_10 (by decide) ?_
    exact ret_i C () (if_pos c_1) hP hD hS dX2_setOfEighth_11
  · refine lv_iconst (v := 1) hx hb dX2_setOfEighth_4 (by decide) ?_
    refine lv_iload_n hx hb dX2_setOfEighth_5 rfl (lv_at hl 0 rfl) ?_
    refine lv_ishl hx hb dX2_setOfEighth_6 ?_
    refine lv_goto (tgt := 11) hx hb dX2_setOfEighth_7 (by decide) ?_
    exact ret_i C () (if_neg c_1) hP hD hS dX2_setOfEighth_11
def bc1 (a : Int32) : Int32 := a - (((a.toUInt32 >>> ((1 : Int32).toUInt32 &&& Int32.toUInt32 31)).toInt32) &&& 1431655765)
def bc2 (a : Int32) : Int32 := (a &&& 858993459) + (((a.toUInt32 >>> ((2 : Int32).toUInt32 &&& Int32.toUInt32 31)).toInt32) &&& 858993459)
def bc3 (a : Int32) : Int32 := (a + ((a.toUInt32 >>> ((4 : Int32).toUInt32 &&& Int32.toUInt32 31)).toInt32)) &&& 252645135
def bc4 (a : Int32) : Int32 := a + ((a.toUInt32 >>> ((8 : Int32).toUInt32 &&& Int32.toUInt32 31)).toInt32)
def bc5 (a : Int32) : Int32 := a + ((a.toUInt32 >>> ((16 : Int32).toUInt32 &&& Int32.toUInt32 31)).toInt32)
def F_J6_bitCount_0f7a4 (p0 : Int32) : Int32 := (bc5 (bc4 (bc3 (bc2 (bc1 p0))))) &&& 63
set_option maxHeartbeats 4000000 in
set_option maxRecDepth 100000 in
theorem c_J6_bitCount_0f7a4 (l : Launch) (D : va_G) (cI cZ : ClassId) (p0 : Int32) : CTi l yJ6_bitCount_0f7a4 wsJ6_bitCount_0f7a4 ({ frames := 0, cells := 0, slots := 0, locals := 0 } : Room) D cI cZ [.int p0] [] (S := Unit) (fun z9 _ => F_J6_bitCount_0f7a4 p0 = z9) (fun _ => []) := by
  refine enterM (cc := cJ6_bitCount_0f7a4) (maxL := 1) (ret := (some .int)) (own := RJ6) (Qc := fun A => va_Qi (S := Unit) (fun z9 _ => F_J6_bitCount_0f7a4 p0 = z9) (PoB (S := Unit) D A (fun _ => [])) A) (by decide) rfl rfl (Nat.le_of_ble_eq_true rfl) ?_
  intro p e s m below meth c A ls C hK hA hP hD hS hl
  have hx := C.1
  have hb := C.2.1
  have hown := C.2.2.2.1
  have hts := C.2.2.2.2.1
  have _huse := hts
  have hl : lv_has ls 1 [(0, .int p0)] := hl
  refine lv_iload_n hx hb dJ6_bitCount_0f7a4_0 rfl (lv_at hl 0 rfl) ?_
  refine lv_iload_n hx hb dJ6_bitCount_0f7a4_1 rfl (lv_at hl 0 rfl) ?_
  refine lv_iconst (v := 1) hx hb dJ6_bitCount_0f7a4_2 (by decide) ?_
  refine lv_iushr (v := (p0.toUInt32 >>> ((1 : Int32).toUInt32 &&& Int32.toUInt32 31)).toInt32) hx hb dJ6_bitCount_0f7a4_3 rfl ?_
  refine lv_ldcw (v := 1431655765) hx hb hown (hts (.constant RJ6 265 (1431655765)) (List.mem_of_getElem? (i := 1) rfl)) dJ6_bitCount_0f7a4_4 ?_
  refine lv_iand hx hb dJ6_bitCount_0f7a4_7 ?_
  refine lv_isub hx hb dJ6_bitCount_0f7a4_8 ?_
  refine lv_istore_n (lv' := [(0, .int (bc1 p0))]) hx hb dJ6_bitCount_0f7a4_9 rfl hl (by decide) rfl (fun ls hl => ?_)
  refine lv_iload_n hx hb dJ6_bitCount_0f7a4_10 rfl (lv_at hl 0 rfl) ?_
  refine lv_ldcw (v := 858993459) hx hb hown (hts (.constant RJ6 266 (858993459)) (List.mem_of_getElem? (i := 2) rfl)) dJ6_bitCount_0f7a4_11 ?_
  refine lv_iand hx hb dJ6_bitCount_0f7a4_14 ?_
  refine lv_iload_n hx hb dJ6_bitCount_0f7a4_15 rfl (lv_at hl 0 rfl) ?_
  refine lv_iconst (v := 2) hx hb dJ6_bitCount_0f7a4_16 (by decide) ?_
  refine lv_iushr (v := ((bc1 p0).toUInt32 >>> ((2 : Int32).toUInt32 &&& Int32.toUInt32 31)).toInt32) hx hb dJ6_bitCount_0f7a4_17 rfl ?_
  refine lv_ldcw (v := 858993459) hx hb hown (hts (.constant RJ6 266 (858993459)) (List.mem_of_getElem? (i := 2) rfl)) dJ6_bitCount_0f7a4_18 ?_
  refine lv_iand hx hb dJ6_bitCount_0f7a4_21 ?_
  refine lv_iadd hx hb dJ6_bitCount_0f7a4_22 ?_
  refine lv_istore_n (lv' := [(0, .int (bc2 (bc1 p0)))]) hx hb dJ6_bitCount_0f7a4_23 rfl hl (by decide) rfl (fun ls hl => ?_)
  refine lv_iload_n hx hb dJ6_bitCount_0f7a4_24 rfl (lv_at hl 0 rfl) ?_
  refine lv_iload_n hx hb dJ6_bitCount_0f7a4_25 rfl (lv_at hl 0 rfl) ?_
  refine lv_iconst (v := 4) hx hb dJ6_bitCount_0f7a4_26 (by decide) ?_
  refine lv_iushr (v := ((bc2 (bc1 p0)).toUInt32 >>> ((4 : Int32).toUInt32 &&& Int32.toUInt32 31)).toInt32) hx hb dJ6_bitCount_0f7a4_27 rfl ?_
  refine lv_iadd hx hb dJ6_bitCount_0f7a4_28 ?_
  refine lv_ldcw (v := 252645135) hx hb hown (hts (.constant RJ6 267 (252645135)) (List.mem_of_getElem? (i := 3) rfl)) dJ6_bitCount_0f7a4_29 ?_
  refine lv_iand hx hb dJ6_bitCount_0f7a4_32 ?_
  refine lv_istore_n (lv' := [(0, .int (bc3 (bc2 (bc1 p0))))]) hx hb dJ6_bitCount_0f7a4_33 rfl hl (by decide) rfl (fun ls hl => ?_)
  refine lv_iload_n hx hb dJ6_bitCount_0f7a4_34 rfl (lv_at hl 0 rfl) ?_
  refine lv_iload_n hx hb dJ6_bitCount_0f7a4_35 rfl (lv_at hl 0 rfl) ?_
  refine lv_bipush (v := 8) hx hb dJ6_bitCount_0f7a4_36 (by decide) ?_
  refine lv_iushr (v := ((bc3 (bc2 (bc1 p0))).toUInt32 >>> ((8 : Int32).toUInt32 &&& Int32.toUInt32 31)).toInt32) hx hb dJ6_bitCount_0f7a4_38 rfl ?_
  refine lv_iadd hx hb dJ6_bitCount_0f7a4_39 ?_
  refine lv_istore_n (lv' := [(0, .int (bc4 (bc3 (bc2 (bc1 p0)))))]) hx hb dJ6_bitCount_0f7a4_40 rfl hl (by decide) rfl (fun ls hl => ?_)
  refine lv_iload_n hx hb dJ6_bitCount_0f7a4_41 rfl (lv_at hl 0 rfl) ?_
  refine lv_iload_n hx hb dJ6_bitCount_0f7a4_42 rfl (lv_at hl 0 rfl) ?_
  refine lv_bipush (v := 16) hx hb dJ6_bitCount_0f7a4_43 (by decide) ?_
  refine lv_iushr (v := ((bc4 (bc3 (bc2 (bc1 p0)))).toUInt32 >>> ((16 : Int32).toUInt32 &&& Int32.toUInt32 31)).toInt32) hx hb dJ6_bitCount_0f7a4_45 rfl ?_
  refine lv_iadd hx hb dJ6_bitCount_0f7a4_46 ?_
  refine lv_istore_n (lv' := [(0, .int (bc5 (bc4 (bc3 (bc2 (bc1 p0))))))]) hx hb dJ6_bitCount_0f7a4_47 rfl hl (by decide) rfl (fun ls hl => ?_)
  refine lv_iload_n hx hb dJ6_bitCount_0f7a4_48 rfl (lv_at hl 0 rfl) ?_
  refine lv_bipush (v := 63) hx hb dJ6_bitCount_0f7a4_49 (by decide) ?_
  refine lv_iand hx hb dJ6_bitCount_0f7a4_51 ?_
  exact ret_i C () rfl hP hD hS dJ6_bitCount_0f7a4_52
def F_X0_empty (r : Rd) : Rd := (0, 0, 0, 0, 0, 0, 0, 0, 0, r.2.2.2.2.2.2.2.2.2.1, r.2.2.2.2.2.2.2.2.2.2.1, r.2.2.2.2.2.2.2.2.2.2.2.1, r.2.2.2.2.2.2.2.2.2.2.2.2)
theorem iX0_empty_X0 : ∀ w ∈ u_ws RX0 TX0 13, w ∈ wsX0_empty := fun _ h => List.mem_cons_of_mem _ (List.mem_append_right _ (h))
set_option maxHeartbeats 4000000 in
set_option maxRecDepth 100000 in
theorem c_X0_empty (l : Launch) (D : va_G) (cI cZ : ClassId) (h0 : Nat) (r : Rd) : CTv l yX0_empty wsX0_empty ({ frames := 0, cells := 0, slots := 0, locals := 0 } : Room) D cI cZ [.ref h0] [(h0, .inr (0, rdv r))] (S := Rd) (fun u9 => F_X0_empty r = u9) (fun u => [(h0, .inr (0, rdv u))]) := by
  refine enterM (cc := cX0_empty) (maxL := 1) (ret := none) (own := RX0) (Qc := fun A => va_Qv (S := Rd) (fun u9 => F_X0_empty r = u9) (PoB (S := Rd) D A (fun u => [(h0, .inr (0, rdv u))])) A) (by decide) rfl rfl (Nat.le_of_ble_eq_true rfl) ?_
  intro p e s m below meth c A ls C hK hA hP hD hS hl
  have hx := C.1
  have hb := C.2.1
  have hown := C.2.2.2.1
  have hts := C.2.2.2.2.1
  have _huse := hts
  have hl : lv_has ls 1 [(0, .ref h0)] := hl
  refine lv_aload_n hx hb dX0_empty_0 rfl (lv_at hl 0 rfl) ?_
  refine lv_lconst (v := 0) hx hb dX0_empty_1 (by decide) ?_
  refine va_put (D := D) (ci := 0) (v := .long 0) (ty := .long) (C := RX0) (T := TX0) (N := 13) hx hb hts iX0_empty_X0 tyX0 tyX0_ok nmX0 hown hK.1 hP hD hS 0 rfl rfl 0 (by decide) (hts (.fieldLink RX0 9 "CompassBias$Round" "many" "J") (List.mem_of_getElem? (i := 1) rfl)) (fun _ h9 => h9) rfl (by decide +kernel) rfl rfl (Nat.le_of_ble_eq_true rfl) dX0_empty_2 (fun H locs hP hD hS => ?_)
  have hP : va_P D classes [(h0, .inr (0, rdv (0, r.2.1, r.2.2.1, r.2.2.2.1, r.2.2.2.2.1, r.2.2.2.2.2.1, r.2.2.2.2.2.2.1, r.2.2.2.2.2.2.2.1, r.2.2.2.2.2.2.2.2.1, r.2.2.2.2.2.2.2.2.2.1, r.2.2.2.2.2.2.2.2.2.2.1, r.2.2.2.2.2.2.2.2.2.2.2.1, r.2.2.2.2.2.2.2.2.2.2.2.2)))] H := hP
  have hD : va_D A [(h0, .inr (0, rdv (0, r.2.1, r.2.2.1, r.2.2.2.1, r.2.2.2.2.1, r.2.2.2.2.2.1, r.2.2.2.2.2.2.1, r.2.2.2.2.2.2.2.1, r.2.2.2.2.2.2.2.2.1, r.2.2.2.2.2.2.2.2.2.1, r.2.2.2.2.2.2.2.2.2.2.1, r.2.2.2.2.2.2.2.2.2.2.2.1, r.2.2.2.2.2.2.2.2.2.2.2.2)))] := hD
  refine lv_aload_n hx hb dX0_empty_5 rfl (lv_at hl 0 rfl) ?_
  refine lv_lconst (v := 0) hx hb dX0_empty_6 (by decide) ?_
  refine va_put (D := D) (ci := 0) (v := .long 0) (ty := .long) (C := RX0) (T := TX0) (N := 13) hx hb hts iX0_empty_X0 tyX0 tyX0_ok nmX0 hown hK.1 hP hD hS 0 rfl rfl 1 (by decide) (hts (.fieldLink RX0 15 "CompassBias$Round" "sumX" "J") (List.mem_of_getElem? (i := 2) rfl)) (fun _ h9 => h9) rfl (by decide +kernel) rfl rfl (Nat.le_of_ble_eq_true rfl) dX0_empty_7 (fun H locs hP hD hS => ?_)
  have hP : va_P D classes [(h0, .inr (0, rdv (0, 0, r.2.2.1, r.2.2.2.1, r.2.2.2.2.1, r.2.2.2.2.2.1, r.2.2.2.2.2.2.1, r.2.2.2.2.2.2.2.1, r.2.2.2.2.2.2.2.2.1, r.2.2.2.2.2.2.2.2.2.1, r.2.2.2.2.2.2.2.2.2.2.1, r.2.2.2.2.2.2.2.2.2.2.2.1, r.2.2.2.2.2.2.2.2.2.2.2.2)))] H := hP
  have hD : va_D A [(h0, .inr (0, rdv (0, 0, r.2.2.1, r.2.2.2.1, r.2.2.2.2.1, r.2.2.2.2.2.1, r.2.2.2.2.2.2.1, r.2.2.2.2.2.2.2.1, r.2.2.2.2.2.2.2.2.1, r.2.2.2.2.2.2.2.2.2.1, r.2.2.2.2.2.2.2.2.2.2.1, r.2.2.2.2.2.2.2.2.2.2.2.1, r.2.2.2.2.2.2.2.2.2.2.2.2)))] := hD
  refine lv_aload_n hx hb dX0_empty_10 rfl (lv_at hl 0 rfl) ?_
  refine lv_lconst (v := 0) hx hb dX0_empty_11 (by decide) ?_
  refine va_put (D := D) (ci := 0) (v := .long 0) (ty := .long) (C := RX0) (T := TX0) (N := 13) hx hb hts iX0_empty_X0 tyX0 tyX0_ok nmX0 hown hK.1 hP hD hS 0 rfl rfl 2 (by decide) (hts (.fieldLink RX0 18 "CompassBias$Round" "sumY" "J") (List.mem_of_getElem? (i := 3) rfl)) (fun _ h9 => h9) rfl (by decide +kernel) rfl rfl (Nat.le_of_ble_eq_true rfl) dX0_empty_12 (fun H locs hP hD hS => ?_)
  have hP : va_P D classes [(h0, .inr (0, rdv (0, 0, 0, r.2.2.2.1, r.2.2.2.2.1, r.2.2.2.2.2.1, r.2.2.2.2.2.2.1, r.2.2.2.2.2.2.2.1, r.2.2.2.2.2.2.2.2.1, r.2.2.2.2.2.2.2.2.2.1, r.2.2.2.2.2.2.2.2.2.2.1, r.2.2.2.2.2.2.2.2.2.2.2.1, r.2.2.2.2.2.2.2.2.2.2.2.2)))] H := hP
  have hD : va_D A [(h0, .inr (0, rdv (0, 0, 0, r.2.2.2.1, r.2.2.2.2.1, r.2.2.2.2.2.1, r.2.2.2.2.2.2.1, r.2.2.2.2.2.2.2.1, r.2.2.2.2.2.2.2.2.1, r.2.2.2.2.2.2.2.2.2.1, r.2.2.2.2.2.2.2.2.2.2.1, r.2.2.2.2.2.2.2.2.2.2.2.1, r.2.2.2.2.2.2.2.2.2.2.2.2)))] := hD
  refine lv_aload_n hx hb dX0_empty_15 rfl (lv_at hl 0 rfl) ?_
  refine lv_lconst (v := 0) hx hb dX0_empty_16 (by decide) ?_
  refine va_put (D := D) (ci := 0) (v := .long 0) (ty := .long) (C := RX0) (T := TX0) (N := 13) hx hb hts iX0_empty_X0 tyX0 tyX0_ok nmX0 hown hK.1 hP hD hS 0 rfl rfl 3 (by decide) (hts (.fieldLink RX0 21 "CompassBias$Round" "sumXX" "J") (List.mem_of_getElem? (i := 4) rfl)) (fun _ h9 => h9) rfl (by decide +kernel) rfl rfl (Nat.le_of_ble_eq_true rfl) dX0_empty_17 (fun H locs hP hD hS => ?_)
  have hP : va_P D classes [(h0, .inr (0, rdv (0, 0, 0, 0, r.2.2.2.2.1, r.2.2.2.2.2.1, r.2.2.2.2.2.2.1, r.2.2.2.2.2.2.2.1, r.2.2.2.2.2.2.2.2.1, r.2.2.2.2.2.2.2.2.2.1, r.2.2.2.2.2.2.2.2.2.2.1, r.2.2.2.2.2.2.2.2.2.2.2.1, r.2.2.2.2.2.2.2.2.2.2.2.2)))] H := hP
  have hD : va_D A [(h0, .inr (0, rdv (0, 0, 0, 0, r.2.2.2.2.1, r.2.2.2.2.2.1, r.2.2.2.2.2.2.1, r.2.2.2.2.2.2.2.1, r.2.2.2.2.2.2.2.2.1, r.2.2.2.2.2.2.2.2.2.1, r.2.2.2.2.2.2.2.2.2.2.1, r.2.2.2.2.2.2.2.2.2.2.2.1, r.2.2.2.2.2.2.2.2.2.2.2.2)))] := hD
  refine lv_aload_n hx hb dX0_empty_20 rfl (lv_at hl 0 rfl) ?_
  refine lv_lconst (v := 0) hx hb dX0_empty_21 (by decide) ?_
  refine va_put (D := D) (ci := 0) (v := .long 0) (ty := .long) (C := RX0) (T := TX0) (N := 13) hx hb hts iX0_empty_X0 tyX0 tyX0_ok nmX0 hown hK.1 hP hD hS 0 rfl rfl 4 (by decide) (hts (.fieldLink RX0 24 "CompassBias$Round" "sumXY" "J") (List.mem_of_getElem? (i := 5) rfl)) (fun _ h9 => h9) rfl (by decide +kernel) rfl rfl (Nat.le_of_ble_eq_true rfl) dX0_empty_22 (fun H locs hP hD hS => ?_)
  have hP : va_P D classes [(h0, .inr (0, rdv (0, 0, 0, 0, 0, r.2.2.2.2.2.1, r.2.2.2.2.2.2.1, r.2.2.2.2.2.2.2.1, r.2.2.2.2.2.2.2.2.1, r.2.2.2.2.2.2.2.2.2.1, r.2.2.2.2.2.2.2.2.2.2.1, r.2.2.2.2.2.2.2.2.2.2.2.1, r.2.2.2.2.2.2.2.2.2.2.2.2)))] H := hP
  have hD : va_D A [(h0, .inr (0, rdv (0, 0, 0, 0, 0, r.2.2.2.2.2.1, r.2.2.2.2.2.2.1, r.2.2.2.2.2.2.2.1, r.2.2.2.2.2.2.2.2.1, r.2.2.2.2.2.2.2.2.2.1, r.2.2.2.2.2.2.2.2.2.2.1, r.2.2.2.2.2.2.2.2.2.2.2.1, r.2.2.2.2.2.2.2.2.2.2.2.2)))] := hD
  refine lv_aload_n hx hb dX0_empty_25 rfl (lv_at hl 0 rfl) ?_
  refine lv_lconst (v := 0) hx hb dX0_empty_26 (by decide) ?_
  refine va_put (D := D) (ci := 0) (v := .long 0) (ty := .long) (C := RX0) (T := TX0) (N := 13) hx hb hts iX0_empty_X0 tyX0 tyX0_ok nmX0 hown hK.1 hP hD hS 0 rfl rfl 5 (by decide) (hts (.fieldLink RX0 27 "CompassBias$Round" "sumYY" "J") (List.mem_of_getElem? (i := 6) rfl)) (fun _ h9 => h9) rfl (by decide +kernel) rfl rfl (Nat.le_of_ble_eq_true rfl) dX0_empty_27 (fun H locs hP hD hS => ?_)
  have hP : va_P D classes [(h0, .inr (0, rdv (0, 0, 0, 0, 0, 0, r.2.2.2.2.2.2.1, r.2.2.2.2.2.2.2.1, r.2.2.2.2.2.2.2.2.1, r.2.2.2.2.2.2.2.2.2.1, r.2.2.2.2.2.2.2.2.2.2.1, r.2.2.2.2.2.2.2.2.2.2.2.1, r.2.2.2.2.2.2.2.2.2.2.2.2)))] H := hP
  have hD : va_D A [(h0, .inr (0, rdv (0, 0, 0, 0, 0, 0, r.2.2.2.2.2.2.1, r.2.2.2.2.2.2.2.1, r.2.2.2.2.2.2.2.2.1, r.2.2.2.2.2.2.2.2.2.1, r.2.2.2.2.2.2.2.2.2.2.1, r.2.2.2.2.2.2.2.2.2.2.2.1, r.2.2.2.2.2.2.2.2.2.2.2.2)))] := hD
  refine lv_aload_n hx hb dX0_empty_30 rfl (lv_at hl 0 rfl) ?_
  refine lv_lconst (v := 0) hx hb dX0_empty_31 (by decide) ?_
  refine va_put (D := D) (ci := 0) (v := .long 0) (ty := .long) (C := RX0) (T := TX0) (N := 13) hx hb hts iX0_empty_X0 tyX0 tyX0_ok nmX0 hown hK.1 hP hD hS 0 rfl rfl 6 (by decide) (hts (.fieldLink RX0 30 "CompassBias$Round" "sumPower" "J") (List.mem_of_getElem? (i := 7) rfl)) (fun _ h9 => h9) rfl (by decide +kernel) rfl rfl (Nat.le_of_ble_eq_true rfl) dX0_empty_32 (fun H locs hP hD hS => ?_)
  have hP : va_P D classes [(h0, .inr (0, rdv (0, 0, 0, 0, 0, 0, 0, r.2.2.2.2.2.2.2.1, r.2.2.2.2.2.2.2.2.1, r.2.2.2.2.2.2.2.2.2.1, r.2.2.2.2.2.2.2.2.2.2.1, r.2.2.2.2.2.2.2.2.2.2.2.1, r.2.2.2.2.2.2.2.2.2.2.2.2)))] H := hP
  have hD : va_D A [(h0, .inr (0, rdv (0, 0, 0, 0, 0, 0, 0, r.2.2.2.2.2.2.2.1, r.2.2.2.2.2.2.2.2.1, r.2.2.2.2.2.2.2.2.2.1, r.2.2.2.2.2.2.2.2.2.2.1, r.2.2.2.2.2.2.2.2.2.2.2.1, r.2.2.2.2.2.2.2.2.2.2.2.2)))] := hD
  refine lv_aload_n hx hb dX0_empty_35 rfl (lv_at hl 0 rfl) ?_
  refine lv_lconst (v := 0) hx hb dX0_empty_36 (by decide) ?_
  refine va_put (D := D) (ci := 0) (v := .long 0) (ty := .long) (C := RX0) (T := TX0) (N := 13) hx hb hts iX0_empty_X0 tyX0 tyX0_ok nmX0 hown hK.1 hP hD hS 0 rfl rfl 7 (by decide) (hts (.fieldLink RX0 33 "CompassBias$Round" "sumXPower" "J") (List.mem_of_getElem? (i := 8) rfl)) (fun _ h9 => h9) rfl (by decide +kernel) rfl rfl (Nat.le_of_ble_eq_true rfl) dX0_empty_37 (fun H locs hP hD hS => ?_)
  have hP : va_P D classes [(h0, .inr (0, rdv (0, 0, 0, 0, 0, 0, 0, 0, r.2.2.2.2.2.2.2.2.1, r.2.2.2.2.2.2.2.2.2.1, r.2.2.2.2.2.2.2.2.2.2.1, r.2.2.2.2.2.2.2.2.2.2.2.1, r.2.2.2.2.2.2.2.2.2.2.2.2)))] H := hP
  have hD : va_D A [(h0, .inr (0, rdv (0, 0, 0, 0, 0, 0, 0, 0, r.2.2.2.2.2.2.2.2.1, r.2.2.2.2.2.2.2.2.2.1, r.2.2.2.2.2.2.2.2.2.2.1, r.2.2.2.2.2.2.2.2.2.2.2.1, r.2.2.2.2.2.2.2.2.2.2.2.2)))] := hD
  refine lv_aload_n hx hb dX0_empty_40 rfl (lv_at hl 0 rfl) ?_
  refine lv_lconst (v := 0) hx hb dX0_empty_41 (by decide) ?_
  refine va_put (D := D) (ci := 0) (v := .long 0) (ty := .long) (C := RX0) (T := TX0) (N := 13) hx hb hts iX0_empty_X0 tyX0 tyX0_ok nmX0 hown hK.1 hP hD hS 0 rfl rfl 8 (by decide) (hts (.fieldLink RX0 36 "CompassBias$Round" "sumYPower" "J") (List.mem_of_getElem? (i := 9) rfl)) (fun _ h9 => h9) rfl (by decide +kernel) rfl rfl (Nat.le_of_ble_eq_true rfl) dX0_empty_42 (fun H locs hP hD hS => ?_)
  have hP : va_P D classes [(h0, .inr (0, rdv (0, 0, 0, 0, 0, 0, 0, 0, 0, r.2.2.2.2.2.2.2.2.2.1, r.2.2.2.2.2.2.2.2.2.2.1, r.2.2.2.2.2.2.2.2.2.2.2.1, r.2.2.2.2.2.2.2.2.2.2.2.2)))] H := hP
  have hD : va_D A [(h0, .inr (0, rdv (0, 0, 0, 0, 0, 0, 0, 0, 0, r.2.2.2.2.2.2.2.2.2.1, r.2.2.2.2.2.2.2.2.2.2.1, r.2.2.2.2.2.2.2.2.2.2.2.1, r.2.2.2.2.2.2.2.2.2.2.2.2)))] := hD
  exact ret_v C (0, 0, 0, 0, 0, 0, 0, 0, 0, r.2.2.2.2.2.2.2.2.2.1, r.2.2.2.2.2.2.2.2.2.2.1, r.2.2.2.2.2.2.2.2.2.2.2.1, r.2.2.2.2.2.2.2.2.2.2.2.2) rfl hP hD hS dX0_empty_45
def F_X0_startFrom (r : Rd) (o : Rd) : Rd := (o.1, o.2.1, o.2.2.1, o.2.2.2.1, o.2.2.2.2.1, o.2.2.2.2.2.1, o.2.2.2.2.2.2.1, o.2.2.2.2.2.2.2.1, o.2.2.2.2.2.2.2.2.1, r.2.2.2.2.2.2.2.2.2.1, r.2.2.2.2.2.2.2.2.2.2.1, r.2.2.2.2.2.2.2.2.2.2.2.1, r.2.2.2.2.2.2.2.2.2.2.2.2)
theorem iX0_startFrom_X0 : ∀ w ∈ u_ws RX0 TX0 13, w ∈ wsX0_startFrom := fun _ h => List.mem_cons_of_mem _ (List.mem_append_right _ (h))
set_option maxHeartbeats 4000000 in
set_option maxRecDepth 100000 in
theorem c_X0_startFrom (l : Launch) (D : va_G) (cI cZ : ClassId) (h0 h1 : Nat) (r : Rd) (o : Rd) : CTv l yX0_startFrom wsX0_startFrom ({ frames := 0, cells := 0, slots := 0, locals := 0 } : Room) D cI cZ [.ref h0, .ref h1] [(h0, .inr (0, rdv r)), (h1, .inr (0, rdv o))] (S := Rd) (fun u9 => F_X0_startFrom r o = u9) (fun u => [(h0, .inr (0, rdv u)), (h1, .inr (0, rdv o))]) := by
  refine enterM (cc := cX0_startFrom) (maxL := 2) (ret := none) (own := RX0) (Qc := fun A => va_Qv (S := Rd) (fun u9 => F_X0_startFrom r o = u9) (PoB (S := Rd) D A (fun u => [(h0, .inr (0, rdv u)), (h1, .inr (0, rdv o))])) A) (by decide) rfl rfl (Nat.le_of_ble_eq_true rfl) ?_
  intro p e s m below meth c A ls C hK hA hP hD hS hl
  have hx := C.1
  have hb := C.2.1
  have hown := C.2.2.2.1
  have hts := C.2.2.2.2.1
  have _huse := hts
  have hl : lv_has ls 2 [(0, .ref h0), (1, .ref h1)] := hl
  refine lv_aload_n hx hb dX0_startFrom_0 rfl (lv_at hl 0 rfl) ?_
  refine lv_aload_n hx hb dX0_startFrom_1 rfl (lv_at hl 1 rfl) ?_
  refine va_get (D := D) (ci := 0) (v := .long o.1) (C := RX0) (T := TX0) (N := 13) hx hb hts iX0_startFrom_X0 hown hK.1 hP 1 rfl rfl 0 (by decide) (hts (.fieldLink RX0 9 "CompassBias$Round" "many" "J") (List.mem_of_getElem? (i := 1) rfl)) (fun _ h9 => h9) rfl dX0_startFrom_2 ?_
  refine va_put (D := D) (ci := 0) (v := .long o.1) (ty := .long) (C := RX0) (T := TX0) (N := 13) hx hb hts iX0_startFrom_X0 tyX0 tyX0_ok nmX0 hown hK.1 hP hD hS 0 rfl rfl 0 (by decide) (hts (.fieldLink RX0 9 "CompassBias$Round" "many" "J") (List.mem_of_getElem? (i := 1) rfl)) (fun _ h9 => h9) rfl (by decide +kernel) rfl rfl (Nat.le_of_ble_eq_true rfl) dX0_startFrom_5 (fun H locs hP hD hS => ?_)
  have hP : va_P D classes [(h0, .inr (0, rdv (o.1, r.2.1, r.2.2.1, r.2.2.2.1, r.2.2.2.2.1, r.2.2.2.2.2.1, r.2.2.2.2.2.2.1, r.2.2.2.2.2.2.2.1, r.2.2.2.2.2.2.2.2.1, r.2.2.2.2.2.2.2.2.2.1, r.2.2.2.2.2.2.2.2.2.2.1, r.2.2.2.2.2.2.2.2.2.2.2.1, r.2.2.2.2.2.2.2.2.2.2.2.2))), (h1, .inr (0, rdv o))] H := hP
  have hD : va_D A [(h0, .inr (0, rdv (o.1, r.2.1, r.2.2.1, r.2.2.2.1, r.2.2.2.2.1, r.2.2.2.2.2.1, r.2.2.2.2.2.2.1, r.2.2.2.2.2.2.2.1, r.2.2.2.2.2.2.2.2.1, r.2.2.2.2.2.2.2.2.2.1, r.2.2.2.2.2.2.2.2.2.2.1, r.2.2.2.2.2.2.2.2.2.2.2.1, r.2.2.2.2.2.2.2.2.2.2.2.2))), (h1, .inr (0, rdv o))] := hD
  refine lv_aload_n hx hb dX0_startFrom_8 rfl (lv_at hl 0 rfl) ?_
  refine lv_aload_n hx hb dX0_startFrom_9 rfl (lv_at hl 1 rfl) ?_
  refine va_get (D := D) (ci := 0) (v := .long o.2.1) (C := RX0) (T := TX0) (N := 13) hx hb hts iX0_startFrom_X0 hown hK.1 hP 1 rfl rfl 1 (by decide) (hts (.fieldLink RX0 15 "CompassBias$Round" "sumX" "J") (List.mem_of_getElem? (i := 2) rfl)) (fun _ h9 => h9) rfl dX0_startFrom_10 ?_
  refine va_put (D := D) (ci := 0) (v := .long o.2.1) (ty := .long) (C := RX0) (T := TX0) (N := 13) hx hb hts iX0_startFrom_X0 tyX0 tyX0_ok nmX0 hown hK.1 hP hD hS 0 rfl rfl 1 (by decide) (hts (.fieldLink RX0 15 "CompassBias$Round" "sumX" "J") (List.mem_of_getElem? (i := 2) rfl)) (fun _ h9 => h9) rfl (by decide +kernel) rfl rfl (Nat.le_of_ble_eq_true rfl) dX0_startFrom_13 (fun H locs hP hD hS => ?_)
  have hP : va_P D classes [(h0, .inr (0, rdv (o.1, o.2.1, r.2.2.1, r.2.2.2.1, r.2.2.2.2.1, r.2.2.2.2.2.1, r.2.2.2.2.2.2.1, r.2.2.2.2.2.2.2.1, r.2.2.2.2.2.2.2.2.1, r.2.2.2.2.2.2.2.2.2.1, r.2.2.2.2.2.2.2.2.2.2.1, r.2.2.2.2.2.2.2.2.2.2.2.1, r.2.2.2.2.2.2.2.2.2.2.2.2))), (h1, .inr (0, rdv o))] H := hP
  have hD : va_D A [(h0, .inr (0, rdv (o.1, o.2.1, r.2.2.1, r.2.2.2.1, r.2.2.2.2.1, r.2.2.2.2.2.1, r.2.2.2.2.2.2.1, r.2.2.2.2.2.2.2.1, r.2.2.2.2.2.2.2.2.1, r.2.2.2.2.2.2.2.2.2.1, r.2.2.2.2.2.2.2.2.2.2.1, r.2.2.2.2.2.2.2.2.2.2.2.1, r.2.2.2.2.2.2.2.2.2.2.2.2))), (h1, .inr (0, rdv o))] := hD
  refine lv_aload_n hx hb dX0_startFrom_16 rfl (lv_at hl 0 rfl) ?_
  refine lv_aload_n hx hb dX0_startFrom_17 rfl (lv_at hl 1 rfl) ?_
  refine va_get (D := D) (ci := 0) (v := .long o.2.2.1) (C := RX0) (T := TX0) (N := 13) hx hb hts iX0_startFrom_X0 hown hK.1 hP 1 rfl rfl 2 (by decide) (hts (.fieldLink RX0 18 "CompassBias$Round" "sumY" "J") (List.mem_of_getElem? (i := 3) rfl)) (fun _ h9 => h9) rfl dX0_startFrom_18 ?_
  refine va_put (D := D) (ci := 0) (v := .long o.2.2.1) (ty := .long) (C := RX0) (T := TX0) (N := 13) hx hb hts iX0_startFrom_X0 tyX0 tyX0_ok nmX0 hown hK.1 hP hD hS 0 rfl rfl 2 (by decide) (hts (.fieldLink RX0 18 "CompassBias$Round" "sumY" "J") (List.mem_of_getElem? (i := 3) rfl)) (fun _ h9 => h9) rfl (by decide +kernel) rfl rfl (Nat.le_of_ble_eq_true rfl) dX0_startFrom_21 (fun H locs hP hD hS => ?_)
  have hP : va_P D classes [(h0, .inr (0, rdv (o.1, o.2.1, o.2.2.1, r.2.2.2.1, r.2.2.2.2.1, r.2.2.2.2.2.1, r.2.2.2.2.2.2.1, r.2.2.2.2.2.2.2.1, r.2.2.2.2.2.2.2.2.1, r.2.2.2.2.2.2.2.2.2.1, r.2.2.2.2.2.2.2.2.2.2.1, r.2.2.2.2.2.2.2.2.2.2.2.1, r.2.2.2.2.2.2.2.2.2.2.2.2))), (h1, .inr (0, rdv o))] H := hP
  have hD : va_D A [(h0, .inr (0, rdv (o.1, o.2.1, o.2.2.1, r.2.2.2.1, r.2.2.2.2.1, r.2.2.2.2.2.1, r.2.2.2.2.2.2.1, r.2.2.2.2.2.2.2.1, r.2.2.2.2.2.2.2.2.1, r.2.2.2.2.2.2.2.2.2.1, r.2.2.2.2.2.2.2.2.2.2.1, r.2.2.2.2.2.2.2.2.2.2.2.1, r.2.2.2.2.2.2.2.2.2.2.2.2))), (h1, .inr (0, rdv o))] := hD
  refine lv_aload_n hx hb dX0_startFrom_24 rfl (lv_at hl 0 rfl) ?_
  refine lv_aload_n hx hb dX0_startFrom_25 rfl (lv_at hl 1 rfl) ?_
  refine va_get (D := D) (ci := 0) (v := .long o.2.2.2.1) (C := RX0) (T := TX0) (N := 13) hx hb hts iX0_startFrom_X0 hown hK.1 hP 1 rfl rfl 3 (by decide) (hts (.fieldLink RX0 21 "CompassBias$Round" "sumXX" "J") (List.mem_of_getElem? (i := 4) rfl)) (fun _ h9 => h9) rfl dX0_startFrom_26 ?_
  refine va_put (D := D) (ci := 0) (v := .long o.2.2.2.1) (ty := .long) (C := RX0) (T := TX0) (N := 13) hx hb hts iX0_startFrom_X0 tyX0 tyX0_ok nmX0 hown hK.1 hP hD hS 0 rfl rfl 3 (by decide) (hts (.fieldLink RX0 21 "CompassBias$Round" "sumXX" "J") (List.mem_of_getElem? (i := 4) rfl)) (fun _ h9 => h9) rfl (by decide +kernel) rfl rfl (Nat.le_of_ble_eq_true rfl) dX0_startFrom_29 (fun H locs hP hD hS => ?_)
  have hP : va_P D classes [(h0, .inr (0, rdv (o.1, o.2.1, o.2.2.1, o.2.2.2.1, r.2.2.2.2.1, r.2.2.2.2.2.1, r.2.2.2.2.2.2.1, r.2.2.2.2.2.2.2.1, r.2.2.2.2.2.2.2.2.1, r.2.2.2.2.2.2.2.2.2.1, r.2.2.2.2.2.2.2.2.2.2.1, r.2.2.2.2.2.2.2.2.2.2.2.1, r.2.2.2.2.2.2.2.2.2.2.2.2))), (h1, .inr (0, rdv o))] H := hP
  have hD : va_D A [(h0, .inr (0, rdv (o.1, o.2.1, o.2.2.1, o.2.2.2.1, r.2.2.2.2.1, r.2.2.2.2.2.1, r.2.2.2.2.2.2.1, r.2.2.2.2.2.2.2.1, r.2.2.2.2.2.2.2.2.1, r.2.2.2.2.2.2.2.2.2.1, r.2.2.2.2.2.2.2.2.2.2.1, r.2.2.2.2.2.2.2.2.2.2.2.1, r.2.2.2.2.2.2.2.2.2.2.2.2))), (h1, .inr (0, rdv o))] := hD
  refine lv_aload_n hx hb dX0_startFrom_32 rfl (lv_at hl 0 rfl) ?_
  refine lv_aload_n hx hb dX0_startFrom_33 rfl (lv_at hl 1 rfl) ?_
  refine va_get (D := D) (ci := 0) (v := .long o.2.2.2.2.1) (C := RX0) (T := TX0) (N := 13) hx hb hts iX0_startFrom_X0 hown hK.1 hP 1 rfl rfl 4 (by decide) (hts (.fieldLink RX0 24 "CompassBias$Round" "sumXY" "J") (List.mem_of_getElem? (i := 5) rfl)) (fun _ h9 => h9) rfl dX0_startFrom_34 ?_
  refine va_put (D := D) (ci := 0) (v := .long o.2.2.2.2.1) (ty := .long) (C := RX0) (T := TX0) (N := 13) hx hb hts iX0_startFrom_X0 tyX0 tyX0_ok nmX0 hown hK.1 hP hD hS 0 rfl rfl 4 (by decide) (hts (.fieldLink RX0 24 "CompassBias$Round" "sumXY" "J") (List.mem_of_getElem? (i := 5) rfl)) (fun _ h9 => h9) rfl (by decide +kernel) rfl rfl (Nat.le_of_ble_eq_true rfl) dX0_startFrom_37 (fun H locs hP hD hS => ?_)
  have hP : va_P D classes [(h0, .inr (0, rdv (o.1, o.2.1, o.2.2.1, o.2.2.2.1, o.2.2.2.2.1, r.2.2.2.2.2.1, r.2.2.2.2.2.2.1, r.2.2.2.2.2.2.2.1, r.2.2.2.2.2.2.2.2.1, r.2.2.2.2.2.2.2.2.2.1, r.2.2.2.2.2.2.2.2.2.2.1, r.2.2.2.2.2.2.2.2.2.2.2.1, r.2.2.2.2.2.2.2.2.2.2.2.2))), (h1, .inr (0, rdv o))] H := hP
  have hD : va_D A [(h0, .inr (0, rdv (o.1, o.2.1, o.2.2.1, o.2.2.2.1, o.2.2.2.2.1, r.2.2.2.2.2.1, r.2.2.2.2.2.2.1, r.2.2.2.2.2.2.2.1, r.2.2.2.2.2.2.2.2.1, r.2.2.2.2.2.2.2.2.2.1, r.2.2.2.2.2.2.2.2.2.2.1, r.2.2.2.2.2.2.2.2.2.2.2.1, r.2.2.2.2.2.2.2.2.2.2.2.2))), (h1, .inr (0, rdv o))] := hD
  refine lv_aload_n hx hb dX0_startFrom_40 rfl (lv_at hl 0 rfl) ?_
  refine lv_aload_n hx hb dX0_startFrom_41 rfl (lv_at hl 1 rfl) ?_
  refine va_get (D := D) (ci := 0) (v := .long o.2.2.2.2.2.1) (C := RX0) (T := TX0) (N := 13) hx hb hts iX0_startFrom_X0 hown hK.1 hP 1 rfl rfl 5 (by decide) (hts (.fieldLink RX0 27 "CompassBias$Round" "sumYY" "J") (List.mem_of_getElem? (i := 6) rfl)) (fun _ h9 => h9) rfl dX0_startFrom_42 ?_
  refine va_put (D := D) (ci := 0) (v := .long o.2.2.2.2.2.1) (ty := .long) (C := RX0) (T := TX0) (N := 13) hx hb hts iX0_startFrom_X0 tyX0 tyX0_ok nmX0 hown hK.1 hP hD hS 0 rfl rfl 5 (by decide) (hts (.fieldLink RX0 27 "CompassBias$Round" "sumYY" "J") (List.mem_of_getElem? (i := 6) rfl)) (fun _ h9 => h9) rfl (by decide +kernel) rfl rfl (Nat.le_of_ble_eq_true rfl) dX0_startFrom_45 (fun H locs hP hD hS => ?_)
  have hP : va_P D classes [(h0, .inr (0, rdv (o.1, o.2.1, o.2.2.1, o.2.2.2.1, o.2.2.2.2.1, o.2.2.2.2.2.1, r.2.2.2.2.2.2.1, r.2.2.2.2.2.2.2.1, r.2.2.2.2.2.2.2.2.1, r.2.2.2.2.2.2.2.2.2.1, r.2.2.2.2.2.2.2.2.2.2.1, r.2.2.2.2.2.2.2.2.2.2.2.1, r.2.2.2.2.2.2.2.2.2.2.2.2))), (h1, .inr (0, rdv o))] H := hP
  have hD : va_D A [(h0, .inr (0, rdv (o.1, o.2.1, o.2.2.1, o.2.2.2.1, o.2.2.2.2.1, o.2.2.2.2.2.1, r.2.2.2.2.2.2.1, r.2.2.2.2.2.2.2.1, r.2.2.2.2.2.2.2.2.1, r.2.2.2.2.2.2.2.2.2.1, r.2.2.2.2.2.2.2.2.2.2.1, r.2.2.2.2.2.2.2.2.2.2.2.1, r.2.2.2.2.2.2.2.2.2.2.2.2))), (h1, .inr (0, rdv o))] := hD
  refine lv_aload_n hx hb dX0_startFrom_48 rfl (lv_at hl 0 rfl) ?_
  refine lv_aload_n hx hb dX0_startFrom_49 rfl (lv_at hl 1 rfl) ?_
  refine va_get (D := D) (ci := 0) (v := .long o.2.2.2.2.2.2.1) (C := RX0) (T := TX0) (N := 13) hx hb hts iX0_startFrom_X0 hown hK.1 hP 1 rfl rfl 6 (by decide) (hts (.fieldLink RX0 30 "CompassBias$Round" "sumPower" "J") (List.mem_of_getElem? (i := 7) rfl)) (fun _ h9 => h9) rfl dX0_startFrom_50 ?_
  refine va_put (D := D) (ci := 0) (v := .long o.2.2.2.2.2.2.1) (ty := .long) (C := RX0) (T := TX0) (N := 13) hx hb hts iX0_startFrom_X0 tyX0 tyX0_ok nmX0 hown hK.1 hP hD hS 0 rfl rfl 6 (by decide) (hts (.fieldLink RX0 30 "CompassBias$Round" "sumPower" "J") (List.mem_of_getElem? (i := 7) rfl)) (fun _ h9 => h9) rfl (by decide +kernel) rfl rfl (Nat.le_of_ble_eq_true rfl) dX0_startFrom_53 (fun H locs hP hD hS => ?_)
  have hP : va_P D classes [(h0, .inr (0, rdv (o.1, o.2.1, o.2.2.1, o.2.2.2.1, o.2.2.2.2.1, o.2.2.2.2.2.1, o.2.2.2.2.2.2.1, r.2.2.2.2.2.2.2.1, r.2.2.2.2.2.2.2.2.1, r.2.2.2.2.2.2.2.2.2.1, r.2.2.2.2.2.2.2.2.2.2.1, r.2.2.2.2.2.2.2.2.2.2.2.1, r.2.2.2.2.2.2.2.2.2.2.2.2))), (h1, .inr (0, rdv o))] H := hP
  have hD : va_D A [(h0, .inr (0, rdv (o.1, o.2.1, o.2.2.1, o.2.2.2.1, o.2.2.2.2.1, o.2.2.2.2.2.1, o.2.2.2.2.2.2.1, r.2.2.2.2.2.2.2.1, r.2.2.2.2.2.2.2.2.1, r.2.2.2.2.2.2.2.2.2.1, r.2.2.2.2.2.2.2.2.2.2.1, r.2.2.2.2.2.2.2.2.2.2.2.1, r.2.2.2.2.2.2.2.2.2.2.2.2))), (h1, .inr (0, rdv o))] := hD
  refine lv_aload_n hx hb dX0_startFrom_56 rfl (lv_at hl 0 rfl) ?_
  refine lv_aload_n hx hb dX0_startFrom_57 rfl (lv_at hl 1 rfl) ?_
  refine va_get (D := D) (ci := 0) (v := .long o.2.2.2.2.2.2.2.1) (C := RX0) (T := TX0) (N := 13) hx hb hts iX0_startFrom_X0 hown hK.1 hP 1 rfl rfl 7 (by decide) (hts (.fieldLink RX0 33 "CompassBias$Round" "sumXPower" "J") (List.mem_of_getElem? (i := 8) rfl)) (fun _ h9 => h9) rfl dX0_startFrom_58 ?_
  refine va_put (D := D) (ci := 0) (v := .long o.2.2.2.2.2.2.2.1) (ty := .long) (C := RX0) (T := TX0) (N := 13) hx hb hts iX0_startFrom_X0 tyX0 tyX0_ok nmX0 hown hK.1 hP hD hS 0 rfl rfl 7 (by decide) (hts (.fieldLink RX0 33 "CompassBias$Round" "sumXPower" "J") (List.mem_of_getElem? (i := 8) rfl)) (fun _ h9 => h9) rfl (by decide +kernel) rfl rfl (Nat.le_of_ble_eq_true rfl) dX0_startFrom_61 (fun H locs hP hD hS => ?_)
  have hP : va_P D classes [(h0, .inr (0, rdv (o.1, o.2.1, o.2.2.1, o.2.2.2.1, o.2.2.2.2.1, o.2.2.2.2.2.1, o.2.2.2.2.2.2.1, o.2.2.2.2.2.2.2.1, r.2.2.2.2.2.2.2.2.1, r.2.2.2.2.2.2.2.2.2.1, r.2.2.2.2.2.2.2.2.2.2.1, r.2.2.2.2.2.2.2.2.2.2.2.1, r.2.2.2.2.2.2.2.2.2.2.2.2))), (h1, .inr (0, rdv o))] H := hP
  have hD : va_D A [(h0, .inr (0, rdv (o.1, o.2.1, o.2.2.1, o.2.2.2.1, o.2.2.2.2.1, o.2.2.2.2.2.1, o.2.2.2.2.2.2.1, o.2.2.2.2.2.2.2.1, r.2.2.2.2.2.2.2.2.1, r.2.2.2.2.2.2.2.2.2.1, r.2.2.2.2.2.2.2.2.2.2.1, r.2.2.2.2.2.2.2.2.2.2.2.1, r.2.2.2.2.2.2.2.2.2.2.2.2))), (h1, .inr (0, rdv o))] := hD
  refine lv_aload_n hx hb dX0_startFrom_64 rfl (lv_at hl 0 rfl) ?_
  refine lv_aload_n hx hb dX0_startFrom_65 rfl (lv_at hl 1 rfl) ?_
  refine va_get (D := D) (ci := 0) (v := .long o.2.2.2.2.2.2.2.2.1) (C := RX0) (T := TX0) (N := 13) hx hb hts iX0_startFrom_X0 hown hK.1 hP 1 rfl rfl 8 (by decide) (hts (.fieldLink RX0 36 "CompassBias$Round" "sumYPower" "J") (List.mem_of_getElem? (i := 9) rfl)) (fun _ h9 => h9) rfl dX0_startFrom_66 ?_
  refine va_put (D := D) (ci := 0) (v := .long o.2.2.2.2.2.2.2.2.1) (ty := .long) (C := RX0) (T := TX0) (N := 13) hx hb hts iX0_startFrom_X0 tyX0 tyX0_ok nmX0 hown hK.1 hP hD hS 0 rfl rfl 8 (by decide) (hts (.fieldLink RX0 36 "CompassBias$Round" "sumYPower" "J") (List.mem_of_getElem? (i := 9) rfl)) (fun _ h9 => h9) rfl (by decide +kernel) rfl rfl (Nat.le_of_ble_eq_true rfl) dX0_startFrom_69 (fun H locs hP hD hS => ?_)
  have hP : va_P D classes [(h0, .inr (0, rdv (o.1, o.2.1, o.2.2.1, o.2.2.2.1, o.2.2.2.2.1, o.2.2.2.2.2.1, o.2.2.2.2.2.2.1, o.2.2.2.2.2.2.2.1, o.2.2.2.2.2.2.2.2.1, r.2.2.2.2.2.2.2.2.2.1, r.2.2.2.2.2.2.2.2.2.2.1, r.2.2.2.2.2.2.2.2.2.2.2.1, r.2.2.2.2.2.2.2.2.2.2.2.2))), (h1, .inr (0, rdv o))] H := hP
  have hD : va_D A [(h0, .inr (0, rdv (o.1, o.2.1, o.2.2.1, o.2.2.2.1, o.2.2.2.2.1, o.2.2.2.2.2.1, o.2.2.2.2.2.2.1, o.2.2.2.2.2.2.2.1, o.2.2.2.2.2.2.2.2.1, r.2.2.2.2.2.2.2.2.2.1, r.2.2.2.2.2.2.2.2.2.2.1, r.2.2.2.2.2.2.2.2.2.2.2.1, r.2.2.2.2.2.2.2.2.2.2.2.2))), (h1, .inr (0, rdv o))] := hD
  exact ret_v C (o.1, o.2.1, o.2.2.1, o.2.2.2.1, o.2.2.2.2.1, o.2.2.2.2.2.1, o.2.2.2.2.2.2.1, o.2.2.2.2.2.2.2.1, o.2.2.2.2.2.2.2.2.1, r.2.2.2.2.2.2.2.2.2.1, r.2.2.2.2.2.2.2.2.2.2.1, r.2.2.2.2.2.2.2.2.2.2.2.1, r.2.2.2.2.2.2.2.2.2.2.2.2) rfl hP hD hS dX0_startFrom_72
def F_X0_include (r : Rd) (p0 : Int32) (p1 : Int32) : Rd := (r.1 + 1, r.2.1 + p0.toInt64, r.2.2.1 + p1.toInt64, r.2.2.2.1 + ((p0 * p0).toInt64), r.2.2.2.2.1 + ((p0 * p1).toInt64), r.2.2.2.2.2.1 + ((p1 * p1).toInt64), r.2.2.2.2.2.2.1 + ((F_X2_powerAt p0 p1).toInt64), r.2.2.2.2.2.2.2.1 + ((p0 * (F_X2_powerAt p0 p1)).toInt64), r.2.2.2.2.2.2.2.2.1 + ((p1 * (F_X2_powerAt p0 p1)).toInt64), r.2.2.2.2.2.2.2.2.2.1, r.2.2.2.2.2.2.2.2.2.2.1, r.2.2.2.2.2.2.2.2.2.2.2.1, r.2.2.2.2.2.2.2.2.2.2.2.2)
theorem iX0_include_X0 : ∀ w ∈ u_ws RX0 TX0 13, w ∈ wsX0_include := fun _ h => List.mem_cons_of_mem _ (List.mem_append_right _ (h))
set_option maxHeartbeats 4000000 in
set_option maxRecDepth 100000 in
theorem c_X0_include (l : Launch) (D : va_G) (cI cZ : ClassId) (h0 : Nat) (r : Rd) (p0 : Int32) (p1 : Int32) : CTv l yX0_include wsX0_include ({ frames := 1, cells := 0, slots := 0, locals := 21 } : Room) D cI cZ [.ref h0, .int p0, .int p1] [(h0, .inr (0, rdv r))] (S := Rd) (fun u9 => F_X0_include r p0 p1 = u9) (fun u => [(h0, .inr (0, rdv u))]) := by
  refine enterM (cc := cX0_include) (maxL := 4) (ret := none) (own := RX0) (Qc := fun A => va_Qv (S := Rd) (fun u9 => F_X0_include r p0 p1 = u9) (PoB (S := Rd) D A (fun u => [(h0, .inr (0, rdv u))])) A) (by decide) rfl rfl (Nat.le_of_ble_eq_true rfl) ?_
  intro p e s m below meth c A ls C hK hA hP hD hS hl
  have hx := C.1
  have hb := C.2.1
  have hown := C.2.2.2.1
  have hts := C.2.2.2.2.1
  have _huse := hts
  have hl : lv_has ls 4 [(0, .ref h0), (1, .int p0), (2, .int p1)] := hl
  refine lv_iload_n hx hb dX0_include_0 rfl (lv_at hl 1 rfl) ?_
  refine lv_iload_n hx hb dX0_include_1 rfl (lv_at hl 2 rfl) ?_
  refine aft_i (wr := [(h0, .inr (0, rdv r))]) (run_SN (As := [.int p0, .int p1]) (rest := []) C (c_X2_powerAt l D cI cZ p0 p1) ⟨va_cnB 2 hts gX0_include_X2_powerAt_n39 rfl rfl rfl hK.2 (hts (.initialized RX2) (List.mem_of_getElem? (i := 11) rfl)) (by decide +kernel) ⟨Nat.le_of_ble_eq_true rfl, Nat.le_of_ble_eq_true rfl⟩, (hts (.static yX2_powerAt) (List.mem_of_getElem? (i := 10) rfl)), trivial⟩ hK (hP.sub (ws' := []) [] rfl) (hD.sub (ws' := []) [] (by decide) rfl) rfl hl.1 rfl (Nat.le_of_ble_eq_true rfl) dX0_include_2 (Nat.zero_le _) (Nat.zero_le _)) hP hD hS hA [] [0] rfl rfl (by decide) (by decide) (fun z9 u9 H locs hw hP hD hS => ?_)
  subst hw
  have hP : va_P D classes [(h0, .inr (0, rdv r))] H := hP
  have hD : va_D A [(h0, .inr (0, rdv r))] := hD
  refine lv_istore_n (lv' := [(3, .int (F_X2_powerAt p0 p1)), (0, .ref h0), (1, .int p0), (2, .int p1)]) hx hb dX0_include_5 rfl hl (by decide) rfl (fun ls hl => ?_)
  refine lv_aload_n hx hb dX0_include_6 rfl (lv_at hl 1 rfl) ?_
  refine lv_dup hx hb dX0_include_7 rfl ?_
  refine va_get (D := D) (ci := 0) (v := .long r.1) (C := RX0) (T := TX0) (N := 13) hx hb hts iX0_include_X0 hown hK.1 hP 0 rfl rfl 0 (by decide) (hts (.fieldLink RX0 9 "CompassBias$Round" "many" "J") (List.mem_of_getElem? (i := 1) rfl)) (fun _ h9 => h9) rfl dX0_include_8 ?_
  refine lv_lconst (v := 1) hx hb dX0_include_11 (by decide) ?_
  refine lv_ladd hx hb dX0_include_12 ?_
  refine va_put (D := D) (ci := 0) (v := .long (r.1 + 1)) (ty := .long) (C := RX0) (T := TX0) (N := 13) hx hb hts iX0_include_X0 tyX0 tyX0_ok nmX0 hown hK.1 hP hD hS 0 rfl rfl 0 (by decide) (hts (.fieldLink RX0 9 "CompassBias$Round" "many" "J") (List.mem_of_getElem? (i := 1) rfl)) (fun _ h9 => h9) rfl (by decide +kernel) rfl rfl (Nat.le_of_ble_eq_true rfl) dX0_include_13 (fun H locs hP hD hS => ?_)
  have hP : va_P D classes [(h0, .inr (0, rdv (r.1 + 1, r.2.1, r.2.2.1, r.2.2.2.1, r.2.2.2.2.1, r.2.2.2.2.2.1, r.2.2.2.2.2.2.1, r.2.2.2.2.2.2.2.1, r.2.2.2.2.2.2.2.2.1, r.2.2.2.2.2.2.2.2.2.1, r.2.2.2.2.2.2.2.2.2.2.1, r.2.2.2.2.2.2.2.2.2.2.2.1, r.2.2.2.2.2.2.2.2.2.2.2.2)))] H := hP
  have hD : va_D A [(h0, .inr (0, rdv (r.1 + 1, r.2.1, r.2.2.1, r.2.2.2.1, r.2.2.2.2.1, r.2.2.2.2.2.1, r.2.2.2.2.2.2.1, r.2.2.2.2.2.2.2.1, r.2.2.2.2.2.2.2.2.1, r.2.2.2.2.2.2.2.2.2.1, r.2.2.2.2.2.2.2.2.2.2.1, r.2.2.2.2.2.2.2.2.2.2.2.1, r.2.2.2.2.2.2.2.2.2.2.2.2)))] := hD
  refine lv_aload_n hx hb dX0_include_16 rfl (lv_at hl 1 rfl) ?_
  refine lv_dup hx hb dX0_include_17 rfl ?_
  refine va_get (D := D) (ci := 0) (v := .long r.2.1) (C := RX0) (T := TX0) (N := 13) hx hb hts iX0_include_X0 hown hK.1 hP 0 rfl rfl 1 (by decide) (hts (.fieldLink RX0 15 "CompassBias$Round" "sumX" "J") (List.mem_of_getElem? (i := 2) rfl)) (fun _ h9 => h9) rfl dX0_include_18 ?_
  refine lv_iload_n hx hb dX0_include_21 rfl (lv_at hl 2 rfl) ?_
  refine lv_i2l (v := p0.toInt64) hx hb dX0_include_22 rfl ?_
  refine lv_ladd hx hb dX0_include_23 ?_
  refine va_put (D := D) (ci := 0) (v := .long (r.2.1 + p0.toInt64)) (ty := .long) (C := RX0) (T := TX0) (N := 13) hx hb hts iX0_include_X0 tyX0 tyX0_ok nmX0 hown hK.1 hP hD hS 0 rfl rfl 1 (by decide) (hts (.fieldLink RX0 15 "CompassBias$Round" "sumX" "J") (List.mem_of_getElem? (i := 2) rfl)) (fun _ h9 => h9) rfl (by decide +kernel) rfl rfl (Nat.le_of_ble_eq_true rfl) dX0_include_24 (fun H locs hP hD hS => ?_)
  have hP : va_P D classes [(h0, .inr (0, rdv (r.1 + 1, r.2.1 + p0.toInt64, r.2.2.1, r.2.2.2.1, r.2.2.2.2.1, r.2.2.2.2.2.1, r.2.2.2.2.2.2.1, r.2.2.2.2.2.2.2.1, r.2.2.2.2.2.2.2.2.1, r.2.2.2.2.2.2.2.2.2.1, r.2.2.2.2.2.2.2.2.2.2.1, r.2.2.2.2.2.2.2.2.2.2.2.1, r.2.2.2.2.2.2.2.2.2.2.2.2)))] H := hP
  have hD : va_D A [(h0, .inr (0, rdv (r.1 + 1, r.2.1 + p0.toInt64, r.2.2.1, r.2.2.2.1, r.2.2.2.2.1, r.2.2.2.2.2.1, r.2.2.2.2.2.2.1, r.2.2.2.2.2.2.2.1, r.2.2.2.2.2.2.2.2.1, r.2.2.2.2.2.2.2.2.2.1, r.2.2.2.2.2.2.2.2.2.2.1, r.2.2.2.2.2.2.2.2.2.2.2.1, r.2.2.2.2.2.2.2.2.2.2.2.2)))] := hD
  refine lv_aload_n hx hb dX0_include_27 rfl (lv_at hl 1 rfl) ?_
  refine lv_dup hx hb dX0_include_28 rfl ?_
  refine va_get (D := D) (ci := 0) (v := .long r.2.2.1) (C := RX0) (T := TX0) (N := 13) hx hb hts iX0_include_X0 hown hK.1 hP 0 rfl rfl 2 (by decide) (hts (.fieldLink RX0 18 "CompassBias$Round" "sumY" "J") (List.mem_of_getElem? (i := 3) rfl)) (fun _ h9 => h9) rfl dX0_include_29 ?_
  refine lv_iload_n hx hb dX0_include_32 rfl (lv_at hl 3 rfl) ?_
  refine lv_i2l (v := p1.toInt64) hx hb dX0_include_33 rfl ?_
  refine lv_ladd hx hb dX0_include_34 ?_
  refine va_put (D := D) (ci := 0) (v := .long (r.2.2.1 + p1.toInt64)) (ty := .long) (C := RX0) (T := TX0) (N := 13) hx hb hts iX0_include_X0 tyX0 tyX0_ok nmX0 hown hK.1 hP hD hS 0 rfl rfl 2 (by decide) (hts (.fieldLink RX0 18 "CompassBias$Round" "sumY" "J") (List.mem_of_getElem? (i := 3) rfl)) (fun _ h9 => h9) rfl (by decide +kernel) rfl rfl (Nat.le_of_ble_eq_true rfl) dX0_include_35 (fun H locs hP hD hS => ?_)
  have hP : va_P D classes [(h0, .inr (0, rdv (r.1 + 1, r.2.1 + p0.toInt64, r.2.2.1 + p1.toInt64, r.2.2.2.1, r.2.2.2.2.1, r.2.2.2.2.2.1, r.2.2.2.2.2.2.1, r.2.2.2.2.2.2.2.1, r.2.2.2.2.2.2.2.2.1, r.2.2.2.2.2.2.2.2.2.1, r.2.2.2.2.2.2.2.2.2.2.1, r.2.2.2.2.2.2.2.2.2.2.2.1, r.2.2.2.2.2.2.2.2.2.2.2.2)))] H := hP
  have hD : va_D A [(h0, .inr (0, rdv (r.1 + 1, r.2.1 + p0.toInt64, r.2.2.1 + p1.toInt64, r.2.2.2.1, r.2.2.2.2.1, r.2.2.2.2.2.1, r.2.2.2.2.2.2.1, r.2.2.2.2.2.2.2.1, r.2.2.2.2.2.2.2.2.1, r.2.2.2.2.2.2.2.2.2.1, r.2.2.2.2.2.2.2.2.2.2.1, r.2.2.2.2.2.2.2.2.2.2.2.1, r.2.2.2.2.2.2.2.2.2.2.2.2)))] := hD
  refine lv_aload_n hx hb dX0_include_38 rfl (lv_at hl 1 rfl) ?_
  refine lv_dup hx hb dX0_include_39 rfl ?_
  refine va_get (D := D) (ci := 0) (v := .long r.2.2.2.1) (C := RX0) (T := TX0) (N := 13) hx hb hts iX0_include_X0 hown hK.1 hP 0 rfl rfl 3 (by decide) (hts (.fieldLink RX0 21 "CompassBias$Round" "sumXX" "J") (List.mem_of_getElem? (i := 4) rfl)) (fun _ h9 => h9) rfl dX0_include_40 ?_
  refine lv_iload_n hx hb dX0_include_43 rfl (lv_at hl 2 rfl) ?_
  refine lv_iload_n hx hb dX0_include_44 rfl (lv_at hl 2 rfl) ?_
  refine lv_imul hx hb dX0_include_45 ?_
  refine lv_i2l (v := (p0 * p0).toInt64) hx hb dX0_include_46 rfl ?_
  refine lv_ladd hx hb dX0_include_47 ?_
  refine va_put (D := D) (ci := 0) (v := .long (r.2.2.2.1 + ((p0 * p0).toInt64))) (ty := .long) (C := RX0) (T := TX0) (N := 13) hx hb hts iX0_include_X0 tyX0 tyX0_ok nmX0 hown hK.1 hP hD hS 0 rfl rfl 3 (by decide) (hts (.fieldLink RX0 21 "CompassBias$Round" "sumXX" "J") (List.mem_of_getElem? (i := 4) rfl)) (fun _ h9 => h9) rfl (by decide +kernel) rfl rfl (Nat.le_of_ble_eq_true rfl) dX0_include_48 (fun H locs hP hD hS => ?_)
  have hP : va_P D classes [(h0, .inr (0, rdv (r.1 + 1, r.2.1 + p0.toInt64, r.2.2.1 + p1.toInt64, r.2.2.2.1 + ((p0 * p0).toInt64), r.2.2.2.2.1, r.2.2.2.2.2.1, r.2.2.2.2.2.2.1, r.2.2.2.2.2.2.2.1, r.2.2.2.2.2.2.2.2.1, r.2.2.2.2.2.2.2.2.2.1, r.2.2.2.2.2.2.2.2.2.2.1, r.2.2.2.2.2.2.2.2.2.2.2.1, r.2.2.2.2.2.2.2.2.2.2.2.2)))] H := hP
  have hD : va_D A [(h0, .inr (0, rdv (r.1 + 1, r.2.1 + p0.toInt64, r.2.2.1 + p1.toInt64, r.2.2.2.1 + ((p0 * p0).toInt64), r.2.2.2.2.1, r.2.2.2.2.2.1, r.2.2.2.2.2.2.1, r.2.2.2.2.2.2.2.1, r.2.2.2.2.2.2.2.2.1, r.2.2.2.2.2.2.2.2.2.1, r.2.2.2.2.2.2.2.2.2.2.1, r.2.2.2.2.2.2.2.2.2.2.2.1, r.2.2.2.2.2.2.2.2.2.2.2.2)))] := hD
  refine lv_aload_n hx hb dX0_include_51 rfl (lv_at hl 1 rfl) ?_
  refine lv_dup hx hb dX0_include_52 rfl ?_
  refine va_get (D := D) (ci := 0) (v := .long r.2.2.2.2.1) (C := RX0) (T := TX0) (N := 13) hx hb hts iX0_include_X0 hown hK.1 hP 0 rfl rfl 4 (by decide) (hts (.fieldLink RX0 24 "CompassBias$Round" "sumXY" "J") (List.mem_of_getElem? (i := 5) rfl)) (fun _ h9 => h9) rfl dX0_include_53 ?_
  refine lv_iload_n hx hb dX0_include_56 rfl (lv_at hl 2 rfl) ?_
  refine lv_iload_n hx hb dX0_include_57 rfl (lv_at hl 3 rfl) ?_
  refine lv_imul hx hb dX0_include_58 ?_
  refine lv_i2l (v := (p0 * p1).toInt64) hx hb dX0_include_59 rfl ?_
  refine lv_ladd hx hb dX0_include_60 ?_
  refine va_put (D := D) (ci := 0) (v := .long (r.2.2.2.2.1 + ((p0 * p1).toInt64))) (ty := .long) (C := RX0) (T := TX0) (N := 13) hx hb hts iX0_include_X0 tyX0 tyX0_ok nmX0 hown hK.1 hP hD hS 0 rfl rfl 4 (by decide) (hts (.fieldLink RX0 24 "CompassBias$Round" "sumXY" "J") (List.mem_of_getElem? (i := 5) rfl)) (fun _ h9 => h9) rfl (by decide +kernel) rfl rfl (Nat.le_of_ble_eq_true rfl) dX0_include_61 (fun H locs hP hD hS => ?_)
  have hP : va_P D classes [(h0, .inr (0, rdv (r.1 + 1, r.2.1 + p0.toInt64, r.2.2.1 + p1.toInt64, r.2.2.2.1 + ((p0 * p0).toInt64), r.2.2.2.2.1 + ((p0 * p1).toInt64), r.2.2.2.2.2.1, r.2.2.2.2.2.2.1, r.2.2.2.2.2.2.2.1, r.2.2.2.2.2.2.2.2.1, r.2.2.2.2.2.2.2.2.2.1, r.2.2.2.2.2.2.2.2.2.2.1, r.2.2.2.2.2.2.2.2.2.2.2.1, r.2.2.2.2.2.2.2.2.2.2.2.2)))] H := hP
  have hD : va_D A [(h0, .inr (0, rdv (r.1 + 1, r.2.1 + p0.toInt64, r.2.2.1 + p1.toInt64, r.2.2.2.1 + ((p0 * p0).toInt64), r.2.2.2.2.1 + ((p0 * p1).toInt64), r.2.2.2.2.2.1, r.2.2.2.2.2.2.1, r.2.2.2.2.2.2.2.1, r.2.2.2.2.2.2.2.2.1, r.2.2.2.2.2.2.2.2.2.1, r.2.2.2.2.2.2.2.2.2.2.1, r.2.2.2.2.2.2.2.2.2.2.2.1, r.2.2.2.2.2.2.2.2.2.2.2.2)))] := hD
  refine lv_aload_n hx hb dX0_include_64 rfl (lv_at hl 1 rfl) ?_
  refine lv_dup hx hb dX0_include_65 rfl ?_
  refine va_get (D := D) (ci := 0) (v := .long r.2.2.2.2.2.1) (C := RX0) (T := TX0) (N := 13) hx hb hts iX0_include_X0 hown hK.1 hP 0 rfl rfl 5 (by decide) (hts (.fieldLink RX0 27 "CompassBias$Round" "sumYY" "J") (List.mem_of_getElem? (i := 6) rfl)) (fun _ h9 => h9) rfl dX0_include_66 ?_
  refine lv_iload_n hx hb dX0_include_69 rfl (lv_at hl 3 rfl) ?_
  refine lv_iload_n hx hb dX0_include_70 rfl (lv_at hl 3 rfl) ?_
  refine lv_imul hx hb dX0_include_71 ?_
  refine lv_i2l (v := (p1 * p1).toInt64) hx hb dX0_include_72 rfl ?_
  refine lv_ladd hx hb dX0_include_73 ?_
  refine va_put (D := D) (ci := 0) (v := .long (r.2.2.2.2.2.1 + ((p1 * p1).toInt64))) (ty := .long) (C := RX0) (T := TX0) (N := 13) hx hb hts iX0_include_X0 tyX0 tyX0_ok nmX0 hown hK.1 hP hD hS 0 rfl rfl 5 (by decide) (hts (.fieldLink RX0 27 "CompassBias$Round" "sumYY" "J") (List.mem_of_getElem? (i := 6) rfl)) (fun _ h9 => h9) rfl (by decide +kernel) rfl rfl (Nat.le_of_ble_eq_true rfl) dX0_include_74 (fun H locs hP hD hS => ?_)
  have hP : va_P D classes [(h0, .inr (0, rdv (r.1 + 1, r.2.1 + p0.toInt64, r.2.2.1 + p1.toInt64, r.2.2.2.1 + ((p0 * p0).toInt64), r.2.2.2.2.1 + ((p0 * p1).toInt64), r.2.2.2.2.2.1 + ((p1 * p1).toInt64), r.2.2.2.2.2.2.1, r.2.2.2.2.2.2.2.1, r.2.2.2.2.2.2.2.2.1, r.2.2.2.2.2.2.2.2.2.1, r.2.2.2.2.2.2.2.2.2.2.1, r.2.2.2.2.2.2.2.2.2.2.2.1, r.2.2.2.2.2.2.2.2.2.2.2.2)))] H := hP
  have hD : va_D A [(h0, .inr (0, rdv (r.1 + 1, r.2.1 + p0.toInt64, r.2.2.1 + p1.toInt64, r.2.2.2.1 + ((p0 * p0).toInt64), r.2.2.2.2.1 + ((p0 * p1).toInt64), r.2.2.2.2.2.1 + ((p1 * p1).toInt64), r.2.2.2.2.2.2.1, r.2.2.2.2.2.2.2.1, r.2.2.2.2.2.2.2.2.1, r.2.2.2.2.2.2.2.2.2.1, r.2.2.2.2.2.2.2.2.2.2.1, r.2.2.2.2.2.2.2.2.2.2.2.1, r.2.2.2.2.2.2.2.2.2.2.2.2)))] := hD
  refine lv_aload_n hx hb dX0_include_77 rfl (lv_at hl 1 rfl) ?_
  refine lv_dup hx hb dX0_include_78 rfl ?_
  refine va_get (D := D) (ci := 0) (v := .long r.2.2.2.2.2.2.1) (C := RX0) (T := TX0) (N := 13) hx hb hts iX0_include_X0 hown hK.1 hP 0 rfl rfl 6 (by decide) (hts (.fieldLink RX0 30 "CompassBias$Round" "sumPower" "J") (List.mem_of_getElem? (i := 7) rfl)) (fun _ h9 => h9) rfl dX0_include_79 ?_
  refine lv_iload_n hx hb dX0_include_82 rfl (lv_at hl 0 rfl) ?_
  refine lv_i2l (v := (F_X2_powerAt p0 p1).toInt64) hx hb dX0_include_83 rfl ?_
  refine lv_ladd hx hb dX0_include_84 ?_
  refine va_put (D := D) (ci := 0) (v := .long (r.2.2.2.2.2.2.1 + ((F_X2_powerAt p0 p1).toInt64))) (ty := .long) (C := RX0) (T := TX0) (N := 13) hx hb hts iX0_include_X0 tyX0 tyX0_ok nmX0 hown hK.1 hP hD hS 0 rfl rfl 6 (by decide) (hts (.fieldLink RX0 30 "CompassBias$Round" "sumPower" "J") (List.mem_of_getElem? (i := 7) rfl)) (fun _ h9 => h9) rfl (by decide +kernel) rfl rfl (Nat.le_of_ble_eq_true rfl) dX0_include_85 (fun H locs hP hD hS => ?_)
  have hP : va_P D classes [(h0, .inr (0, rdv (r.1 + 1, r.2.1 + p0.toInt64, r.2.2.1 + p1.toInt64, r.2.2.2.1 + ((p0 * p0).toInt64), r.2.2.2.2.1 + ((p0 * p1).toInt64), r.2.2.2.2.2.1 + ((p1 * p1).toInt64), r.2.2.2.2.2.2.1 + ((F_X2_powerAt p0 p1).toInt64), r.2.2.2.2.2.2.2.1, r.2.2.2.2.2.2.2.2.1, r.2.2.2.2.2.2.2.2.2.1, r.2.2.2.2.2.2.2.2.2.2.1, r.2.2.2.2.2.2.2.2.2.2.2.1, r.2.2.2.2.2.2.2.2.2.2.2.2)))] H := hP
  have hD : va_D A [(h0, .inr (0, rdv (r.1 + 1, r.2.1 + p0.toInt64, r.2.2.1 + p1.toInt64, r.2.2.2.1 + ((p0 * p0).toInt64), r.2.2.2.2.1 + ((p0 * p1).toInt64), r.2.2.2.2.2.1 + ((p1 * p1).toInt64), r.2.2.2.2.2.2.1 + ((F_X2_powerAt p0 p1).toInt64), r.2.2.2.2.2.2.2.1, r.2.2.2.2.2.2.2.2.1, r.2.2.2.2.2.2.2.2.2.1, r.2.2.2.2.2.2.2.2.2.2.1, r.2.2.2.2.2.2.2.2.2.2.2.1, r.2.2.2.2.2.2.2.2.2.2.2.2)))] := hD
  refine lv_aload_n hx hb dX0_include_88 rfl (lv_at hl 1 rfl) ?_
  refine lv_dup hx hb dX0_include_89 rfl ?_
  refine va_get (D := D) (ci := 0) (v := .long r.2.2.2.2.2.2.2.1) (C := RX0) (T := TX0) (N := 13) hx hb hts iX0_include_X0 hown hK.1 hP 0 rfl rfl 7 (by decide) (hts (.fieldLink RX0 33 "CompassBias$Round" "sumXPower" "J") (List.mem_of_getElem? (i := 8) rfl)) (fun _ h9 => h9) rfl dX0_include_90 ?_
  refine lv_iload_n hx hb dX0_include_93 rfl (lv_at hl 2 rfl) ?_
  refine lv_iload_n hx hb dX0_include_94 rfl (lv_at hl 0 rfl) ?_
  refine lv_imul hx hb dX0_include_95 ?_
  refine lv_i2l (v := (p0 * (F_X2_powerAt p0 p1)).toInt64) hx hb dX0_include_96 rfl ?_
  refine lv_ladd hx hb dX0_include_97 ?_
  refine va_put (D := D) (ci := 0) (v := .long (r.2.2.2.2.2.2.2.1 + ((p0 * (F_X2_powerAt p0 p1)).toInt64))) (ty := .long) (C := RX0) (T := TX0) (N := 13) hx hb hts iX0_include_X0 tyX0 tyX0_ok nmX0 hown hK.1 hP hD hS 0 rfl rfl 7 (by decide) (hts (.fieldLink RX0 33 "CompassBias$Round" "sumXPower" "J") (List.mem_of_getElem? (i := 8) rfl)) (fun _ h9 => h9) rfl (by decide +kernel) rfl rfl (Nat.le_of_ble_eq_true rfl) dX0_include_98 (fun H locs hP hD hS => ?_)
  have hP : va_P D classes [(h0, .inr (0, rdv (r.1 + 1, r.2.1 + p0.toInt64, r.2.2.1 + p1.toInt64, r.2.2.2.1 + ((p0 * p0).toInt64), r.2.2.2.2.1 + ((p0 * p1).toInt64), r.2.2.2.2.2.1 + ((p1 * p1).toInt64), r.2.2.2.2.2.2.1 + ((F_X2_powerAt p0 p1).toInt64), r.2.2.2.2.2.2.2.1 + ((p0 * (F_X2_powerAt p0 p1)).toInt64), r.2.2.2.2.2.2.2.2.1, r.2.2.2.2.2.2.2.2.2.1, r.2.2.2.2.2.2.2.2.2.2.1, r.2.2.2.2.2.2.2.2.2.2.2.1, r.2.2.2.2.2.2.2.2.2.2.2.2)))] H := hP
  have hD : va_D A [(h0, .inr (0, rdv (r.1 + 1, r.2.1 + p0.toInt64, r.2.2.1 + p1.toInt64, r.2.2.2.1 + ((p0 * p0).toInt64), r.2.2.2.2.1 + ((p0 * p1).toInt64), r.2.2.2.2.2.1 + ((p1 * p1).toInt64), r.2.2.2.2.2.2.1 + ((F_X2_powerAt p0 p1).toInt64), r.2.2.2.2.2.2.2.1 + ((p0 * (F_X2_powerAt p0 p1)).toInt64), r.2.2.2.2.2.2.2.2.1, r.2.2.2.2.2.2.2.2.2.1, r.2.2.2.2.2.2.2.2.2.2.1, r.2.2.2.2.2.2.2.2.2.2.2.1, r.2.2.2.2.2.2.2.2.2.2.2.2)))] := hD
  refine lv_aload_n hx hb dX0_include_101 rfl (lv_at hl 1 rfl) ?_
  refine lv_dup hx hb dX0_include_102 rfl ?_
  refine va_get (D := D) (ci := 0) (v := .long r.2.2.2.2.2.2.2.2.1) (C := RX0) (T := TX0) (N := 13) hx hb hts iX0_include_X0 hown hK.1 hP 0 rfl rfl 8 (by decide) (hts (.fieldLink RX0 36 "CompassBias$Round" "sumYPower" "J") (List.mem_of_getElem? (i := 9) rfl)) (fun _ h9 => h9) rfl dX0_include_103 ?_
  refine lv_iload_n hx hb dX0_include_106 rfl (lv_at hl 3 rfl) ?_
  refine lv_iload_n hx hb dX0_include_107 rfl (lv_at hl 0 rfl) ?_
  refine lv_imul hx hb dX0_include_108 ?_
  refine lv_i2l (v := (p1 * (F_X2_powerAt p0 p1)).toInt64) hx hb dX0_include_109 rfl ?_
  refine lv_ladd hx hb dX0_include_110 ?_
  refine va_put (D := D) (ci := 0) (v := .long (r.2.2.2.2.2.2.2.2.1 + ((p1 * (F_X2_powerAt p0 p1)).toInt64))) (ty := .long) (C := RX0) (T := TX0) (N := 13) hx hb hts iX0_include_X0 tyX0 tyX0_ok nmX0 hown hK.1 hP hD hS 0 rfl rfl 8 (by decide) (hts (.fieldLink RX0 36 "CompassBias$Round" "sumYPower" "J") (List.mem_of_getElem? (i := 9) rfl)) (fun _ h9 => h9) rfl (by decide +kernel) rfl rfl (Nat.le_of_ble_eq_true rfl) dX0_include_111 (fun H locs hP hD hS => ?_)
  have hP : va_P D classes [(h0, .inr (0, rdv (r.1 + 1, r.2.1 + p0.toInt64, r.2.2.1 + p1.toInt64, r.2.2.2.1 + ((p0 * p0).toInt64), r.2.2.2.2.1 + ((p0 * p1).toInt64), r.2.2.2.2.2.1 + ((p1 * p1).toInt64), r.2.2.2.2.2.2.1 + ((F_X2_powerAt p0 p1).toInt64), r.2.2.2.2.2.2.2.1 + ((p0 * (F_X2_powerAt p0 p1)).toInt64), r.2.2.2.2.2.2.2.2.1 + ((p1 * (F_X2_powerAt p0 p1)).toInt64), r.2.2.2.2.2.2.2.2.2.1, r.2.2.2.2.2.2.2.2.2.2.1, r.2.2.2.2.2.2.2.2.2.2.2.1, r.2.2.2.2.2.2.2.2.2.2.2.2)))] H := hP
  have hD : va_D A [(h0, .inr (0, rdv (r.1 + 1, r.2.1 + p0.toInt64, r.2.2.1 + p1.toInt64, r.2.2.2.1 + ((p0 * p0).toInt64), r.2.2.2.2.1 + ((p0 * p1).toInt64), r.2.2.2.2.2.1 + ((p1 * p1).toInt64), r.2.2.2.2.2.2.1 + ((F_X2_powerAt p0 p1).toInt64), r.2.2.2.2.2.2.2.1 + ((p0 * (F_X2_powerAt p0 p1)).toInt64), r.2.2.2.2.2.2.2.2.1 + ((p1 * (F_X2_powerAt p0 p1)).toInt64), r.2.2.2.2.2.2.2.2.2.1, r.2.2.2.2.2.2.2.2.2.2.1, r.2.2.2.2.2.2.2.2.2.2.2.1, r.2.2.2.2.2.2.2.2.2.2.2.2)))] := hD
  exact ret_v C (r.1 + 1, r.2.1 + p0.toInt64, r.2.2.1 + p1.toInt64, r.2.2.2.1 + ((p0 * p0).toInt64), r.2.2.2.2.1 + ((p0 * p1).toInt64), r.2.2.2.2.2.1 + ((p1 * p1).toInt64), r.2.2.2.2.2.2.1 + ((F_X2_powerAt p0 p1).toInt64), r.2.2.2.2.2.2.2.1 + ((p0 * (F_X2_powerAt p0 p1)).toInt64), r.2.2.2.2.2.2.2.2.1 + ((p1 * (F_X2_powerAt p0 p1)).toInt64), r.2.2.2.2.2.2.2.2.2.1, r.2.2.2.2.2.2.2.2.2.2.1, r.2.2.2.2.2.2.2.2.2.2.2.1, r.2.2.2.2.2.2.2.2.2.2.2.2) rfl hP hD hS dX0_include_114
def F_X0_lay (r : Rd) : Rd := (r.1, r.2.1, r.2.2.1, r.2.2.2.1, r.2.2.2.2.1, r.2.2.2.2.2.1, r.2.2.2.2.2.2.1, r.2.2.2.2.2.2.2.1, r.2.2.2.2.2.2.2.2.1, (((r.1 * r.2.2.2.1) - (r.2.1 * r.2.1)) * ((r.1 * r.2.2.2.2.2.1) - (r.2.2.1 * r.2.2.1))) - (((r.1 * r.2.2.2.2.1) - (r.2.1 * r.2.2.1)) * ((r.1 * r.2.2.2.2.1) - (r.2.1 * r.2.2.1))), (((r.1 * r.2.2.2.2.2.2.2.1) - (r.2.1 * r.2.2.2.2.2.2.1)) * ((r.1 * r.2.2.2.2.2.1) - (r.2.2.1 * r.2.2.1))) - (((r.1 * r.2.2.2.2.2.2.2.2.1) - (r.2.2.1 * r.2.2.2.2.2.2.1)) * ((r.1 * r.2.2.2.2.1) - (r.2.1 * r.2.2.1))), (((r.1 * r.2.2.2.2.2.2.2.2.1) - (r.2.2.1 * r.2.2.2.2.2.2.1)) * ((r.1 * r.2.2.2.1) - (r.2.1 * r.2.1))) - (((r.1 * r.2.2.2.2.2.2.2.1) - (r.2.1 * r.2.2.2.2.2.2.1)) * ((r.1 * r.2.2.2.2.1) - (r.2.1 * r.2.2.1))), ((r.2.2.2.2.2.2.1 * ((((r.1 * r.2.2.2.1) - (r.2.1 * r.2.1)) * ((r.1 * r.2.2.2.2.2.1) - (r.2.2.1 * r.2.2.1))) - (((r.1 * r.2.2.2.2.1) - (r.2.1 * r.2.2.1)) * ((r.1 * r.2.2.2.2.1) - (r.2.1 * r.2.2.1))))) - (((((r.1 * r.2.2.2.2.2.2.2.1) - (r.2.1 * r.2.2.2.2.2.2.1)) * ((r.1 * r.2.2.2.2.2.1) - (r.2.2.1 * r.2.2.1))) - (((r.1 * r.2.2.2.2.2.2.2.2.1) - (r.2.2.1 * r.2.2.2.2.2.2.1)) * ((r.1 * r.2.2.2.2.1) - (r.2.1 * r.2.2.1)))) * r.2.1)) - (((((r.1 * r.2.2.2.2.2.2.2.2.1) - (r.2.2.1 * r.2.2.2.2.2.2.1)) * ((r.1 * r.2.2.2.1) - (r.2.1 * r.2.1))) - (((r.1 * r.2.2.2.2.2.2.2.1) - (r.2.1 * r.2.2.2.2.2.2.1)) * ((r.1 * r.2.2.2.2.1) - (r.2.1 * r.2.2.1)))) * r.2.2.1))
theorem iX0_lay_X0 : ∀ w ∈ u_ws RX0 TX0 13, w ∈ wsX0_lay := fun _ h => List.mem_cons_of_mem _ (List.mem_append_right _ (h))
set_option maxHeartbeats 4000000 in
set_option maxRecDepth 100000 in
theorem c_X0_lay (l : Launch) (D : va_G) (cI cZ : ClassId) (h0 : Nat) (r : Rd) : CTv l yX0_lay wsX0_lay ({ frames := 0, cells := 0, slots := 0, locals := 0 } : Room) D cI cZ [.ref h0] [(h0, .inr (0, rdv r))] (S := Rd) (fun u9 => F_X0_lay r = u9) (fun u => [(h0, .inr (0, rdv u))]) := by
  refine enterM (cc := cX0_lay) (maxL := 11) (ret := none) (own := RX0) (Qc := fun A => va_Qv (S := Rd) (fun u9 => F_X0_lay r = u9) (PoB (S := Rd) D A (fun u => [(h0, .inr (0, rdv u))])) A) (by decide) rfl rfl (Nat.le_of_ble_eq_true rfl) ?_
  intro p e s m below meth c A ls C hK hA hP hD hS hl
  have hx := C.1
  have hb := C.2.1
  have hown := C.2.2.2.1
  have hts := C.2.2.2.2.1
  have _huse := hts
  have hl : lv_has ls 11 [(0, .ref h0)] := hl
  refine lv_aload_n hx hb dX0_lay_0 rfl (lv_at hl 0 rfl) ?_
  refine va_get (D := D) (ci := 0) (v := .long r.1) (C := RX0) (T := TX0) (N := 13) hx hb hts iX0_lay_X0 hown hK.1 hP 0 rfl rfl 0 (by decide) (hts (.fieldLink RX0 9 "CompassBias$Round" "many" "J") (List.mem_of_getElem? (i := 1) rfl)) (fun _ h9 => h9) rfl dX0_lay_1 ?_
  refine lv_aload_n hx hb dX0_lay_4 rfl (lv_at hl 0 rfl) ?_
  refine va_get (D := D) (ci := 0) (v := .long r.2.2.2.1) (C := RX0) (T := TX0) (N := 13) hx hb hts iX0_lay_X0 hown hK.1 hP 0 rfl rfl 3 (by decide) (hts (.fieldLink RX0 21 "CompassBias$Round" "sumXX" "J") (List.mem_of_getElem? (i := 2) rfl)) (fun _ h9 => h9) rfl dX0_lay_5 ?_
  refine lv_lmul hx hb dX0_lay_8 ?_
  refine lv_aload_n hx hb dX0_lay_9 rfl (lv_at hl 0 rfl) ?_
  refine va_get (D := D) (ci := 0) (v := .long r.2.1) (C := RX0) (T := TX0) (N := 13) hx hb hts iX0_lay_X0 hown hK.1 hP 0 rfl rfl 1 (by decide) (hts (.fieldLink RX0 15 "CompassBias$Round" "sumX" "J") (List.mem_of_getElem? (i := 3) rfl)) (fun _ h9 => h9) rfl dX0_lay_10 ?_
  refine lv_aload_n hx hb dX0_lay_13 rfl (lv_at hl 0 rfl) ?_
  refine va_get (D := D) (ci := 0) (v := .long r.2.1) (C := RX0) (T := TX0) (N := 13) hx hb hts iX0_lay_X0 hown hK.1 hP 0 rfl rfl 1 (by decide) (hts (.fieldLink RX0 15 "CompassBias$Round" "sumX" "J") (List.mem_of_getElem? (i := 3) rfl)) (fun _ h9 => h9) rfl dX0_lay_14 ?_
  refine lv_lmul hx hb dX0_lay_17 ?_
  refine lv_lsub hx hb dX0_lay_18 ?_
  refine lv_lstore_n (lv' := [(1, .long ((r.1 * r.2.2.2.1) - (r.2.1 * r.2.1))), (0, .ref h0)]) hx hb dX0_lay_19 rfl hl (by decide) rfl (fun ls hl => ?_)
  refine lv_aload_n hx hb dX0_lay_20 rfl (lv_at hl 1 rfl) ?_
  refine va_get (D := D) (ci := 0) (v := .long r.1) (C := RX0) (T := TX0) (N := 13) hx hb hts iX0_lay_X0 hown hK.1 hP 0 rfl rfl 0 (by decide) (hts (.fieldLink RX0 9 "CompassBias$Round" "many" "J") (List.mem_of_getElem? (i := 1) rfl)) (fun _ h9 => h9) rfl dX0_lay_21 ?_
  refine lv_aload_n hx hb dX0_lay_24 rfl (lv_at hl 1 rfl) ?_
  refine va_get (D := D) (ci := 0) (v := .long r.2.2.2.2.1) (C := RX0) (T := TX0) (N := 13) hx hb hts iX0_lay_X0 hown hK.1 hP 0 rfl rfl 4 (by decide) (hts (.fieldLink RX0 24 "CompassBias$Round" "sumXY" "J") (List.mem_of_getElem? (i := 4) rfl)) (fun _ h9 => h9) rfl dX0_lay_25 ?_
  refine lv_lmul hx hb dX0_lay_28 ?_
  refine lv_aload_n hx hb dX0_lay_29 rfl (lv_at hl 1 rfl) ?_
  refine va_get (D := D) (ci := 0) (v := .long r.2.1) (C := RX0) (T := TX0) (N := 13) hx hb hts iX0_lay_X0 hown hK.1 hP 0 rfl rfl 1 (by decide) (hts (.fieldLink RX0 15 "CompassBias$Round" "sumX" "J") (List.mem_of_getElem? (i := 3) rfl)) (fun _ h9 => h9) rfl dX0_lay_30 ?_
  refine lv_aload_n hx hb dX0_lay_33 rfl (lv_at hl 1 rfl) ?_
  refine va_get (D := D) (ci := 0) (v := .long r.2.2.1) (C := RX0) (T := TX0) (N := 13) hx hb hts iX0_lay_X0 hown hK.1 hP 0 rfl rfl 2 (by decide) (hts (.fieldLink RX0 18 "CompassBias$Round" "sumY" "J") (List.mem_of_getElem? (i := 5) rfl)) (fun _ h9 => h9) rfl dX0_lay_34 ?_
  refine lv_lmul hx hb dX0_lay_37 ?_
  refine lv_lsub hx hb dX0_lay_38 ?_
  refine lv_lstore_n (lv' := [(3, .long ((r.1 * r.2.2.2.2.1) - (r.2.1 * r.2.2.1))), (1, .long ((r.1 * r.2.2.2.1) - (r.2.1 * r.2.1))), (0, .ref h0)]) hx hb dX0_lay_39 rfl hl (by decide) rfl (fun ls hl => ?_)
  refine lv_aload_n hx hb dX0_lay_40 rfl (lv_at hl 2 rfl) ?_
  refine va_get (D := D) (ci := 0) (v := .long r.1) (C := RX0) (T := TX0) (N := 13) hx hb hts iX0_lay_X0 hown hK.1 hP 0 rfl rfl 0 (by decide) (hts (.fieldLink RX0 9 "CompassBias$Round" "many" "J") (List.mem_of_getElem? (i := 1) rfl)) (fun _ h9 => h9) rfl dX0_lay_41 ?_
  refine lv_aload_n hx hb dX0_lay_44 rfl (lv_at hl 2 rfl) ?_
  refine va_get (D := D) (ci := 0) (v := .long r.2.2.2.2.2.1) (C := RX0) (T := TX0) (N := 13) hx hb hts iX0_lay_X0 hown hK.1 hP 0 rfl rfl 5 (by decide) (hts (.fieldLink RX0 27 "CompassBias$Round" "sumYY" "J") (List.mem_of_getElem? (i := 6) rfl)) (fun _ h9 => h9) rfl dX0_lay_45 ?_
  refine lv_lmul hx hb dX0_lay_48 ?_
  refine lv_aload_n hx hb dX0_lay_49 rfl (lv_at hl 2 rfl) ?_
  refine va_get (D := D) (ci := 0) (v := .long r.2.2.1) (C := RX0) (T := TX0) (N := 13) hx hb hts iX0_lay_X0 hown hK.1 hP 0 rfl rfl 2 (by decide) (hts (.fieldLink RX0 18 "CompassBias$Round" "sumY" "J") (List.mem_of_getElem? (i := 5) rfl)) (fun _ h9 => h9) rfl dX0_lay_50 ?_
  refine lv_aload_n hx hb dX0_lay_53 rfl (lv_at hl 2 rfl) ?_
  refine va_get (D := D) (ci := 0) (v := .long r.2.2.1) (C := RX0) (T := TX0) (N := 13) hx hb hts iX0_lay_X0 hown hK.1 hP 0 rfl rfl 2 (by decide) (hts (.fieldLink RX0 18 "CompassBias$Round" "sumY" "J") (List.mem_of_getElem? (i := 5) rfl)) (fun _ h9 => h9) rfl dX0_lay_54 ?_
  refine lv_lmul hx hb dX0_lay_57 ?_
  refine lv_lsub hx hb dX0_lay_58 ?_
  refine lv_lstore (lv' := [(5, .long ((r.1 * r.2.2.2.2.2.1) - (r.2.2.1 * r.2.2.1))), (3, .long ((r.1 * r.2.2.2.2.1) - (r.2.1 * r.2.2.1))), (1, .long ((r.1 * r.2.2.2.1) - (r.2.1 * r.2.1))), (0, .ref h0)]) hx hb dX0_lay_59 hl (by decide) rfl (fun ls hl => ?_)
  refine lv_aload_n hx hb dX0_lay_61 rfl (lv_at hl 3 rfl) ?_
  refine va_get (D := D) (ci := 0) (v := .long r.1) (C := RX0) (T := TX0) (N := 13) hx hb hts iX0_lay_X0 hown hK.1 hP 0 rfl rfl 0 (by decide) (hts (.fieldLink RX0 9 "CompassBias$Round" "many" "J") (List.mem_of_getElem? (i := 1) rfl)) (fun _ h9 => h9) rfl dX0_lay_62 ?_
  refine lv_aload_n hx hb dX0_lay_65 rfl (lv_at hl 3 rfl) ?_
  refine va_get (D := D) (ci := 0) (v := .long r.2.2.2.2.2.2.2.1) (C := RX0) (T := TX0) (N := 13) hx hb hts iX0_lay_X0 hown hK.1 hP 0 rfl rfl 7 (by decide) (hts (.fieldLink RX0 33 "CompassBias$Round" "sumXPower" "J") (List.mem_of_getElem? (i := 7) rfl)) (fun _ h9 => h9) rfl dX0_lay_66 ?_
  refine lv_lmul hx hb dX0_lay_69 ?_
  refine lv_aload_n hx hb dX0_lay_70 rfl (lv_at hl 3 rfl) ?_
  refine va_get (D := D) (ci := 0) (v := .long r.2.1) (C := RX0) (T := TX0) (N := 13) hx hb hts iX0_lay_X0 hown hK.1 hP 0 rfl rfl 1 (by decide) (hts (.fieldLink RX0 15 "CompassBias$Round" "sumX" "J") (List.mem_of_getElem? (i := 3) rfl)) (fun _ h9 => h9) rfl dX0_lay_71 ?_
  refine lv_aload_n hx hb dX0_lay_74 rfl (lv_at hl 3 rfl) ?_
  refine va_get (D := D) (ci := 0) (v := .long r.2.2.2.2.2.2.1) (C := RX0) (T := TX0) (N := 13) hx hb hts iX0_lay_X0 hown hK.1 hP 0 rfl rfl 6 (by decide) (hts (.fieldLink RX0 30 "CompassBias$Round" "sumPower" "J") (List.mem_of_getElem? (i := 8) rfl)) (fun _ h9 => h9) rfl dX0_lay_75 ?_
  refine lv_lmul hx hb dX0_lay_78 ?_
  refine lv_lsub hx hb dX0_lay_79 ?_
  refine lv_lstore (lv' := [(7, .long ((r.1 * r.2.2.2.2.2.2.2.1) - (r.2.1 * r.2.2.2.2.2.2.1))), (5, .long ((r.1 * r.2.2.2.2.2.1) - (r.2.2.1 * r.2.2.1))), (3, .long ((r.1 * r.2.2.2.2.1) - (r.2.1 * r.2.2.1))), (1, .long ((r.1 * r.2.2.2.1) - (r.2.1 * r.2.1))), (0, .ref h0)]) hx hb dX0_lay_80 hl (by decide) rfl (fun ls hl => ?_)
  refine lv_aload_n hx hb dX0_lay_82 rfl (lv_at hl 4 rfl) ?_
  refine va_get (D := D) (ci := 0) (v := .long r.1) (C := RX0) (T := TX0) (N := 13) hx hb hts iX0_lay_X0 hown hK.1 hP 0 rfl rfl 0 (by decide) (hts (.fieldLink RX0 9 "CompassBias$Round" "many" "J") (List.mem_of_getElem? (i := 1) rfl)) (fun _ h9 => h9) rfl dX0_lay_83 ?_
  refine lv_aload_n hx hb dX0_lay_86 rfl (lv_at hl 4 rfl) ?_
  refine va_get (D := D) (ci := 0) (v := .long r.2.2.2.2.2.2.2.2.1) (C := RX0) (T := TX0) (N := 13) hx hb hts iX0_lay_X0 hown hK.1 hP 0 rfl rfl 8 (by decide) (hts (.fieldLink RX0 36 "CompassBias$Round" "sumYPower" "J") (List.mem_of_getElem? (i := 9) rfl)) (fun _ h9 => h9) rfl dX0_lay_87 ?_
  refine lv_lmul hx hb dX0_lay_90 ?_
  refine lv_aload_n hx hb dX0_lay_91 rfl (lv_at hl 4 rfl) ?_
  refine va_get (D := D) (ci := 0) (v := .long r.2.2.1) (C := RX0) (T := TX0) (N := 13) hx hb hts iX0_lay_X0 hown hK.1 hP 0 rfl rfl 2 (by decide) (hts (.fieldLink RX0 18 "CompassBias$Round" "sumY" "J") (List.mem_of_getElem? (i := 5) rfl)) (fun _ h9 => h9) rfl dX0_lay_92 ?_
  refine lv_aload_n hx hb dX0_lay_95 rfl (lv_at hl 4 rfl) ?_
  refine va_get (D := D) (ci := 0) (v := .long r.2.2.2.2.2.2.1) (C := RX0) (T := TX0) (N := 13) hx hb hts iX0_lay_X0 hown hK.1 hP 0 rfl rfl 6 (by decide) (hts (.fieldLink RX0 30 "CompassBias$Round" "sumPower" "J") (List.mem_of_getElem? (i := 8) rfl)) (fun _ h9 => h9) rfl dX0_lay_96 ?_
  refine lv_lmul hx hb dX0_lay_99 ?_
  refine lv_lsub hx hb dX0_lay_100 ?_
  refine lv_lstore (lv' := [(9, .long ((r.1 * r.2.2.2.2.2.2.2.2.1) - (r.2.2.1 * r.2.2.2.2.2.2.1))), (7, .long ((r.1 * r.2.2.2.2.2.2.2.1) - (r.2.1 * r.2.2.2.2.2.2.1))), (5, .long ((r.1 * r.2.2.2.2.2.1) - (r.2.2.1 * r.2.2.1))), (3, .long ((r.1 * r.2.2.2.2.1) - (r.2.1 * r.2.2.1))), (1, .long ((r.1 * r.2.2.2.1) - (r.2.1 * r.2.1))), (0, .ref h0)]) hx hb dX0_lay_101 hl (by decide) rfl (fun ls hl => ?_)
  refine lv_aload_n hx hb dX0_lay_103 rfl (lv_at hl 5 rfl) ?_
  refine lv_lload_n hx hb dX0_lay_104 rfl (lv_at hl 4 rfl) ?_
  refine lv_lload hx hb dX0_lay_105 (lv_at hl 2 rfl) ?_
  refine lv_lmul hx hb dX0_lay_107 ?_
  refine lv_lload_n hx hb dX0_lay_108 rfl (lv_at hl 3 rfl) ?_
  refine lv_lload_n hx hb dX0_lay_109 rfl (lv_at hl 3 rfl) ?_
  refine lv_lmul hx hb dX0_lay_110 ?_
  refine lv_lsub hx hb dX0_lay_111 ?_
  refine va_put (D := D) (ci := 0) (v := .long ((((r.1 * r.2.2.2.1) - (r.2.1 * r.2.1)) * ((r.1 * r.2.2.2.2.2.1) - (r.2.2.1 * r.2.2.1))) - (((r.1 * r.2.2.2.2.1) - (r.2.1 * r.2.2.1)) * ((r.1 * r.2.2.2.2.1) - (r.2.1 * r.2.2.1))))) (ty := .long) (C := RX0) (T := TX0) (N := 13) hx hb hts iX0_lay_X0 tyX0 tyX0_ok nmX0 hown hK.1 hP hD hS 0 rfl rfl 9 (by decide) (hts (.fieldLink RX0 43 "CompassBias$Round" "spread" "J") (List.mem_of_getElem? (i := 10) rfl)) (fun _ h9 => h9) rfl (by decide +kernel) rfl rfl (Nat.le_of_ble_eq_true rfl) dX0_lay_112 (fun H locs hP hD hS => ?_)
  have hP : va_P D classes [(h0, .inr (0, rdv (r.1, r.2.1, r.2.2.1, r.2.2.2.1, r.2.2.2.2.1, r.2.2.2.2.2.1, r.2.2.2.2.2.2.1, r.2.2.2.2.2.2.2.1, r.2.2.2.2.2.2.2.2.1, (((r.1 * r.2.2.2.1) - (r.2.1 * r.2.1)) * ((r.1 * r.2.2.2.2.2.1) - (r.2.2.1 * r.2.2.1))) - (((r.1 * r.2.2.2.2.1) - (r.2.1 * r.2.2.1)) * ((r.1 * r.2.2.2.2.1) - (r.2.1 * r.2.2.1))), r.2.2.2.2.2.2.2.2.2.2.1, r.2.2.2.2.2.2.2.2.2.2.2.1, r.2.2.2.2.2.2.2.2.2.2.2.2)))] H := hP
  have hD : va_D A [(h0, .inr (0, rdv (r.1, r.2.1, r.2.2.1, r.2.2.2.1, r.2.2.2.2.1, r.2.2.2.2.2.1, r.2.2.2.2.2.2.1, r.2.2.2.2.2.2.2.1, r.2.2.2.2.2.2.2.2.1, (((r.1 * r.2.2.2.1) - (r.2.1 * r.2.1)) * ((r.1 * r.2.2.2.2.2.1) - (r.2.2.1 * r.2.2.1))) - (((r.1 * r.2.2.2.2.1) - (r.2.1 * r.2.2.1)) * ((r.1 * r.2.2.2.2.1) - (r.2.1 * r.2.2.1))), r.2.2.2.2.2.2.2.2.2.2.1, r.2.2.2.2.2.2.2.2.2.2.2.1, r.2.2.2.2.2.2.2.2.2.2.2.2)))] := hD
  refine lv_aload_n hx hb dX0_lay_115 rfl (lv_at hl 5 rfl) ?_
  refine lv_lload hx hb dX0_lay_116 (lv_at hl 1 rfl) ?_
  refine lv_lload hx hb dX0_lay_118 (lv_at hl 2 rfl) ?_
  refine lv_lmul hx hb dX0_lay_120 ?_
  refine lv_lload hx hb dX0_lay_121 (lv_at hl 0 rfl) ?_
  refine lv_lload_n hx hb dX0_lay_123 rfl (lv_at hl 3 rfl) ?_
  refine lv_lmul hx hb dX0_lay_124 ?_
  refine lv_lsub hx hb dX0_lay_125 ?_
  refine va_put (D := D) (ci := 0) (v := .long ((((r.1 * r.2.2.2.2.2.2.2.1) - (r.2.1 * r.2.2.2.2.2.2.1)) * ((r.1 * r.2.2.2.2.2.1) - (r.2.2.1 * r.2.2.1))) - (((r.1 * r.2.2.2.2.2.2.2.2.1) - (r.2.2.1 * r.2.2.2.2.2.2.1)) * ((r.1 * r.2.2.2.2.1) - (r.2.1 * r.2.2.1))))) (ty := .long) (C := RX0) (T := TX0) (N := 13) hx hb hts iX0_lay_X0 tyX0 tyX0_ok nmX0 hown hK.1 hP hD hS 0 rfl rfl 10 (by decide) (hts (.fieldLink RX0 46 "CompassBias$Round" "upperA" "J") (List.mem_of_getElem? (i := 11) rfl)) (fun _ h9 => h9) rfl (by decide +kernel) rfl rfl (Nat.le_of_ble_eq_true rfl) dX0_lay_126 (fun H locs hP hD hS => ?_)
  have hP : va_P D classes [(h0, .inr (0, rdv (r.1, r.2.1, r.2.2.1, r.2.2.2.1, r.2.2.2.2.1, r.2.2.2.2.2.1, r.2.2.2.2.2.2.1, r.2.2.2.2.2.2.2.1, r.2.2.2.2.2.2.2.2.1, (((r.1 * r.2.2.2.1) - (r.2.1 * r.2.1)) * ((r.1 * r.2.2.2.2.2.1) - (r.2.2.1 * r.2.2.1))) - (((r.1 * r.2.2.2.2.1) - (r.2.1 * r.2.2.1)) * ((r.1 * r.2.2.2.2.1) - (r.2.1 * r.2.2.1))), (((r.1 * r.2.2.2.2.2.2.2.1) - (r.2.1 * r.2.2.2.2.2.2.1)) * ((r.1 * r.2.2.2.2.2.1) - (r.2.2.1 * r.2.2.1))) - (((r.1 * r.2.2.2.2.2.2.2.2.1) - (r.2.2.1 * r.2.2.2.2.2.2.1)) * ((r.1 * r.2.2.2.2.1) - (r.2.1 * r.2.2.1))), r.2.2.2.2.2.2.2.2.2.2.2.1, r.2.2.2.2.2.2.2.2.2.2.2.2)))] H := hP
  have hD : va_D A [(h0, .inr (0, rdv (r.1, r.2.1, r.2.2.1, r.2.2.2.1, r.2.2.2.2.1, r.2.2.2.2.2.1, r.2.2.2.2.2.2.1, r.2.2.2.2.2.2.2.1, r.2.2.2.2.2.2.2.2.1, (((r.1 * r.2.2.2.1) - (r.2.1 * r.2.1)) * ((r.1 * r.2.2.2.2.2.1) - (r.2.2.1 * r.2.2.1))) - (((r.1 * r.2.2.2.2.1) - (r.2.1 * r.2.2.1)) * ((r.1 * r.2.2.2.2.1) - (r.2.1 * r.2.2.1))), (((r.1 * r.2.2.2.2.2.2.2.1) - (r.2.1 * r.2.2.2.2.2.2.1)) * ((r.1 * r.2.2.2.2.2.1) - (r.2.2.1 * r.2.2.1))) - (((r.1 * r.2.2.2.2.2.2.2.2.1) - (r.2.2.1 * r.2.2.2.2.2.2.1)) * ((r.1 * r.2.2.2.2.1) - (r.2.1 * r.2.2.1))), r.2.2.2.2.2.2.2.2.2.2.2.1, r.2.2.2.2.2.2.2.2.2.2.2.2)))] := hD
  refine lv_aload_n hx hb dX0_lay_129 rfl (lv_at hl 5 rfl) ?_
  refine lv_lload hx hb dX0_lay_130 (lv_at hl 0 rfl) ?_
  refine lv_lload_n hx hb dX0_lay_132 rfl (lv_at hl 4 rfl) ?_
  refine lv_lmul hx hb dX0_lay_133 ?_
  refine lv_lload hx hb dX0_lay_134 (lv_at hl 1 rfl) ?_
  refine lv_lload_n hx hb dX0_lay_136 rfl (lv_at hl 3 rfl) ?_
  refine lv_lmul hx hb dX0_lay_137 ?_
  refine lv_lsub hx hb dX0_lay_138 ?_
  refine va_put (D := D) (ci := 0) (v := .long ((((r.1 * r.2.2.2.2.2.2.2.2.1) - (r.2.2.1 * r.2.2.2.2.2.2.1)) * ((r.1 * r.2.2.2.1) - (r.2.1 * r.2.1))) - (((r.1 * r.2.2.2.2.2.2.2.1) - (r.2.1 * r.2.2.2.2.2.2.1)) * ((r.1 * r.2.2.2.2.1) - (r.2.1 * r.2.2.1))))) (ty := .long) (C := RX0) (T := TX0) (N := 13) hx hb hts iX0_lay_X0 tyX0 tyX0_ok nmX0 hown hK.1 hP hD hS 0 rfl rfl 11 (by decide) (hts (.fieldLink RX0 49 "CompassBias$Round" "upperB" "J") (List.mem_of_getElem? (i := 12) rfl)) (fun _ h9 => h9) rfl (by decide +kernel) rfl rfl (Nat.le_of_ble_eq_true rfl) dX0_lay_139 (fun H locs hP hD hS => ?_)
  have hP : va_P D classes [(h0, .inr (0, rdv (r.1, r.2.1, r.2.2.1, r.2.2.2.1, r.2.2.2.2.1, r.2.2.2.2.2.1, r.2.2.2.2.2.2.1, r.2.2.2.2.2.2.2.1, r.2.2.2.2.2.2.2.2.1, (((r.1 * r.2.2.2.1) - (r.2.1 * r.2.1)) * ((r.1 * r.2.2.2.2.2.1) - (r.2.2.1 * r.2.2.1))) - (((r.1 * r.2.2.2.2.1) - (r.2.1 * r.2.2.1)) * ((r.1 * r.2.2.2.2.1) - (r.2.1 * r.2.2.1))), (((r.1 * r.2.2.2.2.2.2.2.1) - (r.2.1 * r.2.2.2.2.2.2.1)) * ((r.1 * r.2.2.2.2.2.1) - (r.2.2.1 * r.2.2.1))) - (((r.1 * r.2.2.2.2.2.2.2.2.1) - (r.2.2.1 * r.2.2.2.2.2.2.1)) * ((r.1 * r.2.2.2.2.1) - (r.2.1 * r.2.2.1))), (((r.1 * r.2.2.2.2.2.2.2.2.1) - (r.2.2.1 * r.2.2.2.2.2.2.1)) * ((r.1 * r.2.2.2.1) - (r.2.1 * r.2.1))) - (((r.1 * r.2.2.2.2.2.2.2.1) - (r.2.1 * r.2.2.2.2.2.2.1)) * ((r.1 * r.2.2.2.2.1) - (r.2.1 * r.2.2.1))), r.2.2.2.2.2.2.2.2.2.2.2.2)))] H := hP
  have hD : va_D A [(h0, .inr (0, rdv (r.1, r.2.1, r.2.2.1, r.2.2.2.1, r.2.2.2.2.1, r.2.2.2.2.2.1, r.2.2.2.2.2.2.1, r.2.2.2.2.2.2.2.1, r.2.2.2.2.2.2.2.2.1, (((r.1 * r.2.2.2.1) - (r.2.1 * r.2.1)) * ((r.1 * r.2.2.2.2.2.1) - (r.2.2.1 * r.2.2.1))) - (((r.1 * r.2.2.2.2.1) - (r.2.1 * r.2.2.1)) * ((r.1 * r.2.2.2.2.1) - (r.2.1 * r.2.2.1))), (((r.1 * r.2.2.2.2.2.2.2.1) - (r.2.1 * r.2.2.2.2.2.2.1)) * ((r.1 * r.2.2.2.2.2.1) - (r.2.2.1 * r.2.2.1))) - (((r.1 * r.2.2.2.2.2.2.2.2.1) - (r.2.2.1 * r.2.2.2.2.2.2.1)) * ((r.1 * r.2.2.2.2.1) - (r.2.1 * r.2.2.1))), (((r.1 * r.2.2.2.2.2.2.2.2.1) - (r.2.2.1 * r.2.2.2.2.2.2.1)) * ((r.1 * r.2.2.2.1) - (r.2.1 * r.2.1))) - (((r.1 * r.2.2.2.2.2.2.2.1) - (r.2.1 * r.2.2.2.2.2.2.1)) * ((r.1 * r.2.2.2.2.1) - (r.2.1 * r.2.2.1))), r.2.2.2.2.2.2.2.2.2.2.2.2)))] := hD
  refine lv_aload_n hx hb dX0_lay_142 rfl (lv_at hl 5 rfl) ?_
  refine lv_aload_n hx hb dX0_lay_143 rfl (lv_at hl 5 rfl) ?_
  refine va_get (D := D) (ci := 0) (v := .long r.2.2.2.2.2.2.1) (C := RX0) (T := TX0) (N := 13) hx hb hts iX0_lay_X0 hown hK.1 hP 0 rfl rfl 6 (by decide) (hts (.fieldLink RX0 30 "CompassBias$Round" "sumPower" "J") (List.mem_of_getElem? (i := 8) rfl)) (fun _ h9 => h9) rfl dX0_lay_144 ?_
  refine lv_aload_n hx hb dX0_lay_147 rfl (lv_at hl 5 rfl) ?_
  refine va_get (D := D) (ci := 0) (v := .long ((((r.1 * r.2.2.2.1) - (r.2.1 * r.2.1)) * ((r.1 * r.2.2.2.2.2.1) - (r.2.2.1 * r.2.2.1))) - (((r.1 * r.2.2.2.2.1) - (r.2.1 * r.2.2.1)) * ((r.1 * r.2.2.2.2.1) - (r.2.1 * r.2.2.1))))) (C := RX0) (T := TX0) (N := 13) hx hb hts iX0_lay_X0 hown hK.1 hP 0 rfl rfl 9 (by decide) (hts (.fieldLink RX0 43 "CompassBias$Round" "spread" "J") (List.mem_of_getElem? (i := 10) rfl)) (fun _ h9 => h9) rfl dX0_lay_148 ?_
  refine lv_lmul hx hb dX0_lay_151 ?_
  refine lv_aload_n hx hb dX0_lay_152 rfl (lv_at hl 5 rfl) ?_
  refine va_get (D := D) (ci := 0) (v := .long ((((r.1 * r.2.2.2.2.2.2.2.1) - (r.2.1 * r.2.2.2.2.2.2.1)) * ((r.1 * r.2.2.2.2.2.1) - (r.2.2.1 * r.2.2.1))) - (((r.1 * r.2.2.2.2.2.2.2.2.1) - (r.2.2.1 * r.2.2.2.2.2.2.1)) * ((r.1 * r.2.2.2.2.1) - (r.2.1 * r.2.2.1))))) (C := RX0) (T := TX0) (N := 13) hx hb hts iX0_lay_X0 hown hK.1 hP 0 rfl rfl 10 (by decide) (hts (.fieldLink RX0 46 "CompassBias$Round" "upperA" "J") (List.mem_of_getElem? (i := 11) rfl)) (fun _ h9 => h9) rfl dX0_lay_153 ?_
  refine lv_aload_n hx hb dX0_lay_156 rfl (lv_at hl 5 rfl) ?_
  refine va_get (D := D) (ci := 0) (v := .long r.2.1) (C := RX0) (T := TX0) (N := 13) hx hb hts iX0_lay_X0 hown hK.1 hP 0 rfl rfl 1 (by decide) (hts (.fieldLink RX0 15 "CompassBias$Round" "sumX" "J") (List.mem_of_getElem? (i := 3) rfl)) (fun _ h9 => h9) rfl dX0_lay_157 ?_
  refine lv_lmul hx hb dX0_lay_160 ?_
  refine lv_lsub hx hb dX0_lay_161 ?_
  refine lv_aload_n hx hb dX0_lay_162 rfl (lv_at hl 5 rfl) ?_
  refine va_get (D := D) (ci := 0) (v := .long ((((r.1 * r.2.2.2.2.2.2.2.2.1) - (r.2.2.1 * r.2.2.2.2.2.2.1)) * ((r.1 * r.2.2.2.1) - (r.2.1 * r.2.1))) - (((r.1 * r.2.2.2.2.2.2.2.1) - (r.2.1 * r.2.2.2.2.2.2.1)) * ((r.1 * r.2.2.2.2.1) - (r.2.1 * r.2.2.1))))) (C := RX0) (T := TX0) (N := 13) hx hb hts iX0_lay_X0 hown hK.1 hP 0 rfl rfl 11 (by decide) (hts (.fieldLink RX0 49 "CompassBias$Round" "upperB" "J") (List.mem_of_getElem? (i := 12) rfl)) (fun _ h9 => h9) rfl dX0_lay_163 ?_
  refine lv_aload_n hx hb dX0_lay_166 rfl (lv_at hl 5 rfl) ?_
  refine va_get (D := D) (ci := 0) (v := .long r.2.2.1) (C := RX0) (T := TX0) (N := 13) hx hb hts iX0_lay_X0 hown hK.1 hP 0 rfl rfl 2 (by decide) (hts (.fieldLink RX0 18 "CompassBias$Round" "sumY" "J") (List.mem_of_getElem? (i := 5) rfl)) (fun _ h9 => h9) rfl dX0_lay_167 ?_
  refine lv_lmul hx hb dX0_lay_170 ?_
  refine lv_lsub hx hb dX0_lay_171 ?_
  refine va_put (D := D) (ci := 0) (v := .long (((r.2.2.2.2.2.2.1 * ((((r.1 * r.2.2.2.1) - (r.2.1 * r.2.1)) * ((r.1 * r.2.2.2.2.2.1) - (r.2.2.1 * r.2.2.1))) - (((r.1 * r.2.2.2.2.1) - (r.2.1 * r.2.2.1)) * ((r.1 * r.2.2.2.2.1) - (r.2.1 * r.2.2.1))))) - (((((r.1 * r.2.2.2.2.2.2.2.1) - (r.2.1 * r.2.2.2.2.2.2.1)) * ((r.1 * r.2.2.2.2.2.1) - (r.2.2.1 * r.2.2.1))) - (((r.1 * r.2.2.2.2.2.2.2.2.1) - (r.2.2.1 * r.2.2.2.2.2.2.1)) * ((r.1 * r.2.2.2.2.1) - (r.2.1 * r.2.2.1)))) * r.2.1)) - (((((r.1 * r.2.2.2.2.2.2.2.2.1) - (r.2.2.1 * r.2.2.2.2.2.2.1)) * ((r.1 * r.2.2.2.1) - (r.2.1 * r.2.1))) - (((r.1 * r.2.2.2.2.2.2.2.1) - (r.2.1 * r.2.2.2.2.2.2.1)) * ((r.1 * r.2.2.2.2.1) - (r.2.1 * r.2.2.1)))) * r.2.2.1))) (ty := .long) (C := RX0) (T := TX0) (N := 13) hx hb hts iX0_lay_X0 tyX0 tyX0_ok nmX0 hown hK.1 hP hD hS 0 rfl rfl 12 (by decide) (hts (.fieldLink RX0 52 "CompassBias$Round" "upperC" "J") (List.mem_of_getElem? (i := 13) rfl)) (fun _ h9 => h9) rfl (by decide +kernel) rfl rfl (Nat.le_of_ble_eq_true rfl) dX0_lay_172 (fun H locs hP hD hS => ?_)
  have hP : va_P D classes [(h0, .inr (0, rdv (r.1, r.2.1, r.2.2.1, r.2.2.2.1, r.2.2.2.2.1, r.2.2.2.2.2.1, r.2.2.2.2.2.2.1, r.2.2.2.2.2.2.2.1, r.2.2.2.2.2.2.2.2.1, (((r.1 * r.2.2.2.1) - (r.2.1 * r.2.1)) * ((r.1 * r.2.2.2.2.2.1) - (r.2.2.1 * r.2.2.1))) - (((r.1 * r.2.2.2.2.1) - (r.2.1 * r.2.2.1)) * ((r.1 * r.2.2.2.2.1) - (r.2.1 * r.2.2.1))), (((r.1 * r.2.2.2.2.2.2.2.1) - (r.2.1 * r.2.2.2.2.2.2.1)) * ((r.1 * r.2.2.2.2.2.1) - (r.2.2.1 * r.2.2.1))) - (((r.1 * r.2.2.2.2.2.2.2.2.1) - (r.2.2.1 * r.2.2.2.2.2.2.1)) * ((r.1 * r.2.2.2.2.1) - (r.2.1 * r.2.2.1))), (((r.1 * r.2.2.2.2.2.2.2.2.1) - (r.2.2.1 * r.2.2.2.2.2.2.1)) * ((r.1 * r.2.2.2.1) - (r.2.1 * r.2.1))) - (((r.1 * r.2.2.2.2.2.2.2.1) - (r.2.1 * r.2.2.2.2.2.2.1)) * ((r.1 * r.2.2.2.2.1) - (r.2.1 * r.2.2.1))), ((r.2.2.2.2.2.2.1 * ((((r.1 * r.2.2.2.1) - (r.2.1 * r.2.1)) * ((r.1 * r.2.2.2.2.2.1) - (r.2.2.1 * r.2.2.1))) - (((r.1 * r.2.2.2.2.1) - (r.2.1 * r.2.2.1)) * ((r.1 * r.2.2.2.2.1) - (r.2.1 * r.2.2.1))))) - (((((r.1 * r.2.2.2.2.2.2.2.1) - (r.2.1 * r.2.2.2.2.2.2.1)) * ((r.1 * r.2.2.2.2.2.1) - (r.2.2.1 * r.2.2.1))) - (((r.1 * r.2.2.2.2.2.2.2.2.1) - (r.2.2.1 * r.2.2.2.2.2.2.1)) * ((r.1 * r.2.2.2.2.1) - (r.2.1 * r.2.2.1)))) * r.2.1)) - (((((r.1 * r.2.2.2.2.2.2.2.2.1) - (r.2.2.1 * r.2.2.2.2.2.2.1)) * ((r.1 * r.2.2.2.1) - (r.2.1 * r.2.1))) - (((r.1 * r.2.2.2.2.2.2.2.1) - (r.2.1 * r.2.2.2.2.2.2.1)) * ((r.1 * r.2.2.2.2.1) - (r.2.1 * r.2.2.1)))) * r.2.2.1))))] H := hP
  have hD : va_D A [(h0, .inr (0, rdv (r.1, r.2.1, r.2.2.1, r.2.2.2.1, r.2.2.2.2.1, r.2.2.2.2.2.1, r.2.2.2.2.2.2.1, r.2.2.2.2.2.2.2.1, r.2.2.2.2.2.2.2.2.1, (((r.1 * r.2.2.2.1) - (r.2.1 * r.2.1)) * ((r.1 * r.2.2.2.2.2.1) - (r.2.2.1 * r.2.2.1))) - (((r.1 * r.2.2.2.2.1) - (r.2.1 * r.2.2.1)) * ((r.1 * r.2.2.2.2.1) - (r.2.1 * r.2.2.1))), (((r.1 * r.2.2.2.2.2.2.2.1) - (r.2.1 * r.2.2.2.2.2.2.1)) * ((r.1 * r.2.2.2.2.2.1) - (r.2.2.1 * r.2.2.1))) - (((r.1 * r.2.2.2.2.2.2.2.2.1) - (r.2.2.1 * r.2.2.2.2.2.2.1)) * ((r.1 * r.2.2.2.2.1) - (r.2.1 * r.2.2.1))), (((r.1 * r.2.2.2.2.2.2.2.2.1) - (r.2.2.1 * r.2.2.2.2.2.2.1)) * ((r.1 * r.2.2.2.1) - (r.2.1 * r.2.1))) - (((r.1 * r.2.2.2.2.2.2.2.1) - (r.2.1 * r.2.2.2.2.2.2.1)) * ((r.1 * r.2.2.2.2.1) - (r.2.1 * r.2.2.1))), ((r.2.2.2.2.2.2.1 * ((((r.1 * r.2.2.2.1) - (r.2.1 * r.2.1)) * ((r.1 * r.2.2.2.2.2.1) - (r.2.2.1 * r.2.2.1))) - (((r.1 * r.2.2.2.2.1) - (r.2.1 * r.2.2.1)) * ((r.1 * r.2.2.2.2.1) - (r.2.1 * r.2.2.1))))) - (((((r.1 * r.2.2.2.2.2.2.2.1) - (r.2.1 * r.2.2.2.2.2.2.1)) * ((r.1 * r.2.2.2.2.2.1) - (r.2.2.1 * r.2.2.1))) - (((r.1 * r.2.2.2.2.2.2.2.2.1) - (r.2.2.1 * r.2.2.2.2.2.2.1)) * ((r.1 * r.2.2.2.2.1) - (r.2.1 * r.2.2.1)))) * r.2.1)) - (((((r.1 * r.2.2.2.2.2.2.2.2.1) - (r.2.2.1 * r.2.2.2.2.2.2.1)) * ((r.1 * r.2.2.2.1) - (r.2.1 * r.2.1))) - (((r.1 * r.2.2.2.2.2.2.2.1) - (r.2.1 * r.2.2.2.2.2.2.1)) * ((r.1 * r.2.2.2.2.1) - (r.2.1 * r.2.2.1)))) * r.2.2.1))))] := hD
  exact ret_v C (r.1, r.2.1, r.2.2.1, r.2.2.2.1, r.2.2.2.2.1, r.2.2.2.2.2.1, r.2.2.2.2.2.2.1, r.2.2.2.2.2.2.2.1, r.2.2.2.2.2.2.2.2.1, (((r.1 * r.2.2.2.1) - (r.2.1 * r.2.1)) * ((r.1 * r.2.2.2.2.2.1) - (r.2.2.1 * r.2.2.1))) - (((r.1 * r.2.2.2.2.1) - (r.2.1 * r.2.2.1)) * ((r.1 * r.2.2.2.2.1) - (r.2.1 * r.2.2.1))), (((r.1 * r.2.2.2.2.2.2.2.1) - (r.2.1 * r.2.2.2.2.2.2.1)) * ((r.1 * r.2.2.2.2.2.1) - (r.2.2.1 * r.2.2.1))) - (((r.1 * r.2.2.2.2.2.2.2.2.1) - (r.2.2.1 * r.2.2.2.2.2.2.1)) * ((r.1 * r.2.2.2.2.1) - (r.2.1 * r.2.2.1))), (((r.1 * r.2.2.2.2.2.2.2.2.1) - (r.2.2.1 * r.2.2.2.2.2.2.1)) * ((r.1 * r.2.2.2.1) - (r.2.1 * r.2.1))) - (((r.1 * r.2.2.2.2.2.2.2.1) - (r.2.1 * r.2.2.2.2.2.2.1)) * ((r.1 * r.2.2.2.2.1) - (r.2.1 * r.2.2.1))), ((r.2.2.2.2.2.2.1 * ((((r.1 * r.2.2.2.1) - (r.2.1 * r.2.1)) * ((r.1 * r.2.2.2.2.2.1) - (r.2.2.1 * r.2.2.1))) - (((r.1 * r.2.2.2.2.1) - (r.2.1 * r.2.2.1)) * ((r.1 * r.2.2.2.2.1) - (r.2.1 * r.2.2.1))))) - (((((r.1 * r.2.2.2.2.2.2.2.1) - (r.2.1 * r.2.2.2.2.2.2.1)) * ((r.1 * r.2.2.2.2.2.1) - (r.2.2.1 * r.2.2.1))) - (((r.1 * r.2.2.2.2.2.2.2.2.1) - (r.2.2.1 * r.2.2.2.2.2.2.1)) * ((r.1 * r.2.2.2.2.1) - (r.2.1 * r.2.2.1)))) * r.2.1)) - (((((r.1 * r.2.2.2.2.2.2.2.2.1) - (r.2.2.1 * r.2.2.2.2.2.2.1)) * ((r.1 * r.2.2.2.1) - (r.2.1 * r.2.1))) - (((r.1 * r.2.2.2.2.2.2.2.1) - (r.2.1 * r.2.2.2.2.2.2.1)) * ((r.1 * r.2.2.2.2.1) - (r.2.1 * r.2.2.1)))) * r.2.2.1)) rfl hP hD hS dX0_lay_175
def F_X0_isFlat (r : Rd) : Int32 := if 0 < (lg_cmp r.2.2.2.2.2.2.2.2.2.1 0) then (0) else (1)
theorem iX0_isFlat_X0 : ∀ w ∈ u_ws RX0 TX0 13, w ∈ wsX0_isFlat := fun _ h => List.mem_cons_of_mem _ (List.mem_append_right _ (h))
set_option maxHeartbeats 4000000 in
set_option maxRecDepth 100000 in
theorem c_X0_isFlat (l : Launch) (D : va_G) (cI cZ : ClassId) (h0 : Nat) (r : Rd) : CTi l yX0_isFlat wsX0_isFlat ({ frames := 0, cells := 0, slots := 0, locals := 0 } : Room) D cI cZ [.ref h0] [(h0, .inr (0, rdv r))] (S := Unit) (fun z9 _ => F_X0_isFlat r = z9) (fun _ => [(h0, .inr (0, rdv r))]) := by
  refine enterM (cc := cX0_isFlat) (maxL := 1) (ret := (some .boolean)) (own := RX0) (Qc := fun A => va_Qi (S := Unit) (fun z9 _ => F_X0_isFlat r = z9) (PoB (S := Unit) D A (fun _ => [(h0, .inr (0, rdv r))])) A) (by decide) rfl rfl (Nat.le_of_ble_eq_true rfl) ?_
  intro p e s m below meth c A ls C hK hA hP hD hS hl
  have hx := C.1
  have hb := C.2.1
  have hown := C.2.2.2.1
  have hts := C.2.2.2.2.1
  have _huse := hts
  have hl : lv_has ls 1 [(0, .ref h0)] := hl
  refine lv_aload_n hx hb dX0_isFlat_0 rfl (lv_at hl 0 rfl) ?_
  refine va_get (D := D) (ci := 0) (v := .long r.2.2.2.2.2.2.2.2.2.1) (C := RX0) (T := TX0) (N := 13) hx hb hts iX0_isFlat_X0 hown hK.1 hP 0 rfl rfl 9 (by decide) (hts (.fieldLink RX0 43 "CompassBias$Round" "spread" "J") (List.mem_of_getElem? (i := 1) rfl)) (fun _ h9 => h9) rfl dX0_isFlat_1 ?_
  refine lv_lconst (v := 0) hx hb dX0_isFlat_4 (by decide) ?_
  refine W.lcmp hx hb dX0_isFlat_5 ?_
  refine lv_if_gt (tgt := 13) hx hb dX0_isFlat_6 (by decide) (fun c_6 => ?_) (fun c_6 => ?_)
  · refine lv_iconst (v := 0) hx hb dX0_isFlat_13 (by decide) ?_
    exact ret_z C (Or.inl rfl) () (if_pos c_6) hP hD hS dX0_isFlat_14
  · refine lv_iconst (v := 1) hx hb dX0_isFlat_9 (by decide) ?_
    refine lv_goto (tgt := 14) hx hb dX0_isFlat_10 (by decide) ?_
    exact ret_z C (Or.inr rfl) () (if_neg c_6) hP hD hS dX0_isFlat_14
def F_X0_fullLower (r : Rd) : Int64 := r.1 * r.2.2.2.2.2.2.2.2.2.1
theorem iX0_fullLower_X0 : ∀ w ∈ u_ws RX0 TX0 13, w ∈ wsX0_fullLower := fun _ h => List.mem_cons_of_mem _ (List.mem_append_right _ (h))
set_option maxHeartbeats 4000000 in
set_option maxRecDepth 100000 in
theorem c_X0_fullLower (l : Launch) (D : va_G) (cI cZ : ClassId) (h0 : Nat) (r : Rd) : CTl l yX0_fullLower wsX0_fullLower ({ frames := 0, cells := 0, slots := 0, locals := 0 } : Room) D cI cZ [.ref h0] [(h0, .inr (0, rdv r))] (S := Unit) (fun z9 _ => F_X0_fullLower r = z9) (fun _ => [(h0, .inr (0, rdv r))]) := by
  refine enterM (cc := cX0_fullLower) (maxL := 1) (ret := (some .long)) (own := RX0) (Qc := fun A => va_Ql (S := Unit) (fun z9 _ => F_X0_fullLower r = z9) (PoB (S := Unit) D A (fun _ => [(h0, .inr (0, rdv r))])) A) (by decide) rfl rfl (Nat.le_of_ble_eq_true rfl) ?_
  intro p e s m below meth c A ls C hK hA hP hD hS hl
  have hx := C.1
  have hb := C.2.1
  have hown := C.2.2.2.1
  have hts := C.2.2.2.2.1
  have _huse := hts
  have hl : lv_has ls 1 [(0, .ref h0)] := hl
  refine lv_aload_n hx hb dX0_fullLower_0 rfl (lv_at hl 0 rfl) ?_
  refine va_get (D := D) (ci := 0) (v := .long r.1) (C := RX0) (T := TX0) (N := 13) hx hb hts iX0_fullLower_X0 hown hK.1 hP 0 rfl rfl 0 (by decide) (hts (.fieldLink RX0 9 "CompassBias$Round" "many" "J") (List.mem_of_getElem? (i := 1) rfl)) (fun _ h9 => h9) rfl dX0_fullLower_1 ?_
  refine lv_aload_n hx hb dX0_fullLower_4 rfl (lv_at hl 0 rfl) ?_
  refine va_get (D := D) (ci := 0) (v := .long r.2.2.2.2.2.2.2.2.2.1) (C := RX0) (T := TX0) (N := 13) hx hb hts iX0_fullLower_X0 hown hK.1 hP 0 rfl rfl 9 (by decide) (hts (.fieldLink RX0 43 "CompassBias$Round" "spread" "J") (List.mem_of_getElem? (i := 2) rfl)) (fun _ h9 => h9) rfl dX0_fullLower_5 ?_
  refine lv_lmul hx hb dX0_fullLower_8 ?_
  exact ret_l C () rfl hP hD hS dX0_fullLower_9
def F_X0_offUpperAt (r : Rd) (p0 : Int32) (p1 : Int32) : Int64 := (r.1 * (((((F_X2_powerAt p0 p1).toInt64) * r.2.2.2.2.2.2.2.2.2.1) - (r.2.2.2.2.2.2.2.2.2.2.1 * p0.toInt64)) - (r.2.2.2.2.2.2.2.2.2.2.2.1 * p1.toInt64))) - r.2.2.2.2.2.2.2.2.2.2.2.2
theorem iX0_offUpperAt_X0 : ∀ w ∈ u_ws RX0 TX0 13, w ∈ wsX0_offUpperAt := fun _ h => List.mem_cons_of_mem _ (List.mem_append_right _ (h))
set_option maxHeartbeats 4000000 in
set_option maxRecDepth 100000 in
theorem c_X0_offUpperAt (l : Launch) (D : va_G) (cI cZ : ClassId) (h0 : Nat) (r : Rd) (p0 : Int32) (p1 : Int32) : CTl l yX0_offUpperAt wsX0_offUpperAt ({ frames := 1, cells := 0, slots := 0, locals := 21 } : Room) D cI cZ [.ref h0, .int p0, .int p1] [(h0, .inr (0, rdv r))] (S := Unit) (fun z9 _ => F_X0_offUpperAt r p0 p1 = z9) (fun _ => [(h0, .inr (0, rdv r))]) := by
  refine enterM (cc := cX0_offUpperAt) (maxL := 3) (ret := (some .long)) (own := RX0) (Qc := fun A => va_Ql (S := Unit) (fun z9 _ => F_X0_offUpperAt r p0 p1 = z9) (PoB (S := Unit) D A (fun _ => [(h0, .inr (0, rdv r))])) A) (by decide) rfl rfl (Nat.le_of_ble_eq_true rfl) ?_
  intro p e s m below meth c A ls C hK hA hP hD hS hl
  have hx := C.1
  have hb := C.2.1
  have hown := C.2.2.2.1
  have hts := C.2.2.2.2.1
  have _huse := hts
  have hl : lv_has ls 3 [(0, .ref h0), (1, .int p0), (2, .int p1)] := hl
  refine lv_aload_n hx hb dX0_offUpperAt_0 rfl (lv_at hl 0 rfl) ?_
  refine va_get (D := D) (ci := 0) (v := .long r.1) (C := RX0) (T := TX0) (N := 13) hx hb hts iX0_offUpperAt_X0 hown hK.1 hP 0 rfl rfl 0 (by decide) (hts (.fieldLink RX0 9 "CompassBias$Round" "many" "J") (List.mem_of_getElem? (i := 1) rfl)) (fun _ h9 => h9) rfl dX0_offUpperAt_1 ?_
  refine lv_iload_n hx hb dX0_offUpperAt_4 rfl (lv_at hl 1 rfl) ?_
  refine lv_iload_n hx hb dX0_offUpperAt_5 rfl (lv_at hl 2 rfl) ?_
  refine aft_i (wr := [(h0, .inr (0, rdv r))]) (run_SN (As := [.int p0, .int p1]) (rest := [.long r.1]) C (c_X2_powerAt l D cI cZ p0 p1) ⟨va_cnB 2 hts gX0_offUpperAt_X2_powerAt_n39 rfl rfl rfl hK.2 (hts (.initialized RX2) (List.mem_of_getElem? (i := 7) rfl)) (by decide +kernel) ⟨Nat.le_of_ble_eq_true rfl, Nat.le_of_ble_eq_true rfl⟩, (hts (.static yX2_powerAt) (List.mem_of_getElem? (i := 6) rfl)), trivial⟩ hK (hP.sub (ws' := []) [] rfl) (hD.sub (ws' := []) [] (by decide) rfl) rfl hl.1 rfl (Nat.le_of_ble_eq_true rfl) dX0_offUpperAt_6 (Nat.zero_le _) (Nat.zero_le _)) hP hD hS hA [] [0] rfl rfl (by decide) (by decide) (fun z9 u9 H locs hw hP hD hS => ?_)
  subst hw
  have hP : va_P D classes [(h0, .inr (0, rdv r))] H := hP
  have hD : va_D A [(h0, .inr (0, rdv r))] := hD
  refine lv_i2l (v := (F_X2_powerAt p0 p1).toInt64) hx hb dX0_offUpperAt_9 rfl ?_
  refine lv_aload_n hx hb dX0_offUpperAt_10 rfl (lv_at hl 0 rfl) ?_
  refine va_get (D := D) (ci := 0) (v := .long r.2.2.2.2.2.2.2.2.2.1) (C := RX0) (T := TX0) (N := 13) hx hb hts iX0_offUpperAt_X0 hown hK.1 hP 0 rfl rfl 9 (by decide) (hts (.fieldLink RX0 43 "CompassBias$Round" "spread" "J") (List.mem_of_getElem? (i := 2) rfl)) (fun _ h9 => h9) rfl dX0_offUpperAt_11 ?_
  refine lv_lmul hx hb dX0_offUpperAt_14 ?_
  refine lv_aload_n hx hb dX0_offUpperAt_15 rfl (lv_at hl 0 rfl) ?_
  refine va_get (D := D) (ci := 0) (v := .long r.2.2.2.2.2.2.2.2.2.2.1) (C := RX0) (T := TX0) (N := 13) hx hb hts iX0_offUpperAt_X0 hown hK.1 hP 0 rfl rfl 10 (by decide) (hts (.fieldLink RX0 46 "CompassBias$Round" "upperA" "J") (List.mem_of_getElem? (i := 3) rfl)) (fun _ h9 => h9) rfl dX0_offUpperAt_16 ?_
  refine lv_iload_n hx hb dX0_offUpperAt_19 rfl (lv_at hl 1 rfl) ?_
  refine lv_i2l (v := p0.toInt64) hx hb dX0_offUpperAt_20 rfl ?_
  refine lv_lmul hx hb dX0_offUpperAt_21 ?_
  refine lv_lsub hx hb dX0_offUpperAt_22 ?_
  refine lv_aload_n hx hb dX0_offUpperAt_23 rfl (lv_at hl 0 rfl) ?_
  refine va_get (D := D) (ci := 0) (v := .long r.2.2.2.2.2.2.2.2.2.2.2.1) (C := RX0) (T := TX0) (N := 13) hx hb hts iX0_offUpperAt_X0 hown hK.1 hP 0 rfl rfl 11 (by decide) (hts (.fieldLink RX0 49 "CompassBias$Round" "upperB" "J") (List.mem_of_getElem? (i := 4) rfl)) (fun _ h9 => h9) rfl dX0_offUpperAt_24 ?_
  refine lv_iload_n hx hb dX0_offUpperAt_27 rfl (lv_at hl 2 rfl) ?_
  refine lv_i2l (v := p1.toInt64) hx hb dX0_offUpperAt_28 rfl ?_
  refine lv_lmul hx hb dX0_offUpperAt_29 ?_
  refine lv_lsub hx hb dX0_offUpperAt_30 ?_
  refine lv_lmul hx hb dX0_offUpperAt_31 ?_
  refine lv_aload_n hx hb dX0_offUpperAt_32 rfl (lv_at hl 0 rfl) ?_
  refine va_get (D := D) (ci := 0) (v := .long r.2.2.2.2.2.2.2.2.2.2.2.2) (C := RX0) (T := TX0) (N := 13) hx hb hts iX0_offUpperAt_X0 hown hK.1 hP 0 rfl rfl 12 (by decide) (hts (.fieldLink RX0 52 "CompassBias$Round" "upperC" "J") (List.mem_of_getElem? (i := 5) rfl)) (fun _ h9 => h9) rfl dX0_offUpperAt_33 ?_
  refine lv_lsub hx hb dX0_offUpperAt_36 ?_
  exact ret_l C () rfl hP hD hS dX0_offUpperAt_37
def L_X0_eighthTowards_106 (p0 : Int64) (p1 : Int64)  : Int32 := if 0 ≤ (lg_cmp p1 0) then ((-6)) else (if (lg_cmp p0 (-p1)) < 0 then ((-6)) else (7))
def L_X0_eighthTowards_90 (p0 : Int64) (p1 : Int64)  : Int32 := if (lg_cmp p0 0) < 0 then (L_X0_eighthTowards_106 p0 p1) else (if (lg_cmp (-p1) p0) ≤ 0 then (L_X0_eighthTowards_106 p0 p1) else (6))
def L_X0_eighthTowards_74 (p0 : Int64) (p1 : Int64)  : Int32 := if 0 ≤ (lg_cmp p0 0) then (L_X0_eighthTowards_90 p0 p1) else (if (lg_cmp (-p1) (-p0)) < 0 then (L_X0_eighthTowards_90 p0 p1) else (5))
def L_X0_eighthTowards_58 (p0 : Int64) (p1 : Int64)  : Int32 := if 0 < (lg_cmp p1 0) then (L_X0_eighthTowards_74 p0 p1) else (if (lg_cmp (-p0) (-p1)) ≤ 0 then (L_X0_eighthTowards_74 p0 p1) else (4))
def L_X0_eighthTowards_43 (p0 : Int64) (p1 : Int64)  : Int32 := if (lg_cmp p1 0) ≤ 0 then (L_X0_eighthTowards_58 p0 p1) else (if (lg_cmp (-p0) p1) < 0 then (L_X0_eighthTowards_58 p0 p1) else (3))
def L_X0_eighthTowards_28 (p0 : Int64) (p1 : Int64)  : Int32 := if 0 < (lg_cmp p0 0) then (L_X0_eighthTowards_43 p0 p1) else (if (lg_cmp p1 (-p0)) ≤ 0 then (L_X0_eighthTowards_43 p0 p1) else (2))
def L_X0_eighthTowards_14 (p0 : Int64) (p1 : Int64)  : Int32 := if (lg_cmp p0 0) ≤ 0 then (L_X0_eighthTowards_28 p0 p1) else (if (lg_cmp p1 p0) < 0 then (L_X0_eighthTowards_28 p0 p1) else (1))
def F_X0_eighthTowards (p0 : Int64) (p1 : Int64) : Int32 := if (lg_cmp p1 0) < 0 then (L_X0_eighthTowards_14 p0 p1) else (if (lg_cmp p0 p1) ≤ 0 then (L_X0_eighthTowards_14 p0 p1) else (0))
set_option maxHeartbeats 4000000 in
set_option maxRecDepth 100000 in
theorem c_X0_eighthTowards (l : Launch) (D : va_G) (cI cZ : ClassId) (p0 : Int64) (p1 : Int64) : CTi l yX0_eighthTowards wsX0_eighthTowards ({ frames := 0, cells := 0, slots := 0, locals := 0 } : Room) D cI cZ [.long p0, .long p1] [] (S := Unit) (fun z9 _ => F_X0_eighthTowards p0 p1 = z9) (fun _ => []) := by
  refine enterM (cc := cX0_eighthTowards) (maxL := 4) (ret := (some .int)) (own := RX0) (Qc := fun A => va_Qi (S := Unit) (fun z9 _ => F_X0_eighthTowards p0 p1 = z9) (PoB (S := Unit) D A (fun _ => [])) A) (by decide) rfl rfl (Nat.le_of_ble_eq_true rfl) ?_
  intro p e s m below meth c A ls C hK hA hP hD hS hl
  have hx := C.1
  have hb := C.2.1
  have hown := C.2.2.2.1
  have hts := C.2.2.2.2.1
  have _huse := hts
  have K106 : ∀ (X : Int32) (_ : X = L_X0_eighthTowards_106 p0 p1) (H : Heap) (locs : List Loc) (_ : va_P D classes [] H) (_ : va_D A []) (_ : va_S A s.heap H locs) (ls : Array Slot) (_ : lv_has ls 4 [(0, .long p0), (2, .long p1)]), W p l e ({ frames := 0, cells := 0, slots := 0, locals := 0 } : Room) s m [.long p0, .long p1].toArray below meth c H locs 0 0 (MQ below (va_Qi (S := Unit) (fun z9 _ => X = z9) (PoB (S := Unit) D A (fun _ => [])) A) [.long p0, .long p1].toArray s 0 0 A) (F0 m 106 ls []) := by
    intro X hX H locs hP hD hS ls hl
    refine lv_lload_n hx hb dX0_eighthTowards_106 rfl (lv_at hl 1 rfl) ?_
    refine lv_lconst (v := 0) hx hb dX0_eighthTowards_107 (by decide) ?_
    refine W.lcmp hx hb dX0_eighthTowards_108 ?_
    refine lv_if_ge (tgt := 122) hx hb dX0_eighthTowards_109 (by decide) (fun c_109 => ?_) (fun c_109 => ?_)
    · refine lv_bipush (v := (-6)) hx hb dX0_eighthTowards_122 (by decide) ?_
      exact ret_i C () (hX.trans ((if_pos c_109))) hP hD hS dX0_eighthTowards_124
    · refine lv_lload_n hx hb dX0_eighthTowards_112 rfl (lv_at hl 0 rfl) ?_
      refine lv_lload_n hx hb dX0_eighthTowards_113 rfl (lv_at hl 1 rfl) ?_
      refine lv_lneg hx hb dX0_eighthTowards_114 ?_
      refine W.lcmp hx hb dX0_eighthTowards_115 ?_
      refine lv_if_lt (tgt := 122) hx hb dX0_eighthTowards_116 (by decide) (fun c_116 => ?_) (fun c_116 => ?_)
      · refine lv_bipush (v := (-6)) hx hb dX0_eighthTowards_122 (by decide) ?_
        exact ret_i C () (hX.trans ((if_neg c_109).trans ((if_pos c_116)))) hP hD hS dX0_eighthTowards_124
      · refine lv_bipush (v := 7) hx hb dX0_eighthTowards_119 (by decide) ?_
        exact ret_i C () (hX.trans ((if_neg c_109).trans ((if_neg c_116)))) hP hD hS dX0_eighthTowards_121
  have K90 : ∀ (X : Int32) (_ : X = L_X0_eighthTowards_90 p0 p1) (H : Heap) (locs : List Loc) (_ : va_P D classes [] H) (_ : va_D A []) (_ : va_S A s.heap H locs) (ls : Array Slot) (_ : lv_has ls 4 [(0, .long p0), (2, .long p1)]), W p l e ({ frames := 0, cells := 0, slots := 0, locals := 0 } : Room) s m [.long p0, .long p1].toArray below meth c H locs 0 0 (MQ below (va_Qi (S := Unit) (fun z9 _ => X = z9) (PoB (S := Unit) D A (fun _ => [])) A) [.long p0, .long p1].toArray s 0 0 A) (F0 m 90 ls []) := by
    intro X hX H locs hP hD hS ls hl
    refine lv_lload_n hx hb dX0_eighthTowards_90 rfl (lv_at hl 0 rfl) ?_
    refine lv_lconst (v := 0) hx hb dX0_eighthTowards_91 (by decide) ?_
    refine W.lcmp hx hb dX0_eighthTowards_92 ?_
    refine lv_if_lt (tgt := 106) hx hb dX0_eighthTowards_93 (by decide) (fun c_93 => ?_) (fun c_93 => ?_)
    · exact K106 X (hX.trans ((if_pos c_93))) _ _ hP hD hS _ (lv_sub hl [0, 1] rfl)
    · refine lv_lload_n hx hb dX0_eighthTowards_96 rfl (lv_at hl 1 rfl) ?_
      refine lv_lneg hx hb dX0_eighthTowards_97 ?_
      refine lv_lload_n hx hb dX0_eighthTowards_98 rfl (lv_at hl 0 rfl) ?_
      refine W.lcmp hx hb dX0_eighthTowards_99 ?_
      refine lv_if_le (tgt := 106) hx hb dX0_eighthTowards_100 (by decide) (fun c_100 => ?_) (fun c_100 => ?_)
      · exact K106 X (hX.trans ((if_neg c_93).trans ((if_pos c_100)))) _ _ hP hD hS _ (lv_sub hl [0, 1] rfl)
      · refine lv_bipush (v := 6) hx hb dX0_eighthTowards_103 (by decide) ?_
        exact ret_i C () (hX.trans ((if_neg c_93).trans ((if_neg c_100)))) hP hD hS dX0_eighthTowards_105
  have K74 : ∀ (X : Int32) (_ : X = L_X0_eighthTowards_74 p0 p1) (H : Heap) (locs : List Loc) (_ : va_P D classes [] H) (_ : va_D A []) (_ : va_S A s.heap H locs) (ls : Array Slot) (_ : lv_has ls 4 [(0, .long p0), (2, .long p1)]), W p l e ({ frames := 0, cells := 0, slots := 0, locals := 0 } : Room) s m [.long p0, .long p1].toArray below meth c H locs 0 0 (MQ below (va_Qi (S := Unit) (fun z9 _ => X = z9) (PoB (S := Unit) D A (fun _ => [])) A) [.long p0, .long p1].toArray s 0 0 A) (F0 m 74 ls []) := by
    intro X hX H locs hP hD hS ls hl
    refine lv_lload_n hx hb dX0_eighthTowards_74 rfl (lv_at hl 0 rfl) ?_
    refine lv_lconst (v := 0) hx hb dX0_eighthTowards_75 (by decide) ?_
    refine W.lcmp hx hb dX0_eighthTowards_76 ?_
    refine lv_if_ge (tgt := 90) hx hb dX0_eighthTowards_77 (by decide) (fun c_77 => ?_) (fun c_77 => ?_)
    · exact K90 X (hX.trans ((if_pos c_77))) _ _ hP hD hS _ (lv_sub hl [0, 1] rfl)
    · refine lv_lload_n hx hb dX0_eighthTowards_80 rfl (lv_at hl 1 rfl) ?_
      refine lv_lneg hx hb dX0_eighthTowards_81 ?_
      refine lv_lload_n hx hb dX0_eighthTowards_82 rfl (lv_at hl 0 rfl) ?_
      refine lv_lneg hx hb dX0_eighthTowards_83 ?_
      refine W.lcmp hx hb dX0_eighthTowards_84 ?_
      refine lv_if_lt (tgt := 90) hx hb dX0_eighthTowards_85 (by decide) (fun c_85 => ?_) (fun c_85 => ?_)
      · exact K90 X (hX.trans ((if_neg c_77).trans ((if_pos c_85)))) _ _ hP hD hS _ (lv_sub hl [0, 1] rfl)
      · refine lv_iconst (v := 5) hx hb dX0_eighthTowards_88 (by decide) ?_
        exact ret_i C () (hX.trans ((if_neg c_77).trans ((if_neg c_85)))) hP hD hS dX0_eighthTowards_89
  have K58 : ∀ (X : Int32) (_ : X = L_X0_eighthTowards_58 p0 p1) (H : Heap) (locs : List Loc) (_ : va_P D classes [] H) (_ : va_D A []) (_ : va_S A s.heap H locs) (ls : Array Slot) (_ : lv_has ls 4 [(0, .long p0), (2, .long p1)]), W p l e ({ frames := 0, cells := 0, slots := 0, locals := 0 } : Room) s m [.long p0, .long p1].toArray below meth c H locs 0 0 (MQ below (va_Qi (S := Unit) (fun z9 _ => X = z9) (PoB (S := Unit) D A (fun _ => [])) A) [.long p0, .long p1].toArray s 0 0 A) (F0 m 58 ls []) := by
    intro X hX H locs hP hD hS ls hl
    refine lv_lload_n hx hb dX0_eighthTowards_58 rfl (lv_at hl 1 rfl) ?_
    refine lv_lconst (v := 0) hx hb dX0_eighthTowards_59 (by decide) ?_
    refine W.lcmp hx hb dX0_eighthTowards_60 ?_
    refine lv_if_gt (tgt := 74) hx hb dX0_eighthTowards_61 (by decide) (fun c_61 => ?_) (fun c_61 => ?_)
    · exact K74 X (hX.trans ((if_pos c_61))) _ _ hP hD hS _ (lv_sub hl [0, 1] rfl)
    · refine lv_lload_n hx hb dX0_eighthTowards_64 rfl (lv_at hl 0 rfl) ?_
      refine lv_lneg hx hb dX0_eighthTowards_65 ?_
      refine lv_lload_n hx hb dX0_eighthTowards_66 rfl (lv_at hl 1 rfl) ?_
      refine lv_lneg hx hb dX0_eighthTowards_67 ?_
      refine W.lcmp hx hb dX0_eighthTowards_68 ?_
      refine lv_if_le (tgt := 74) hx hb dX0_eighthTowards_69 (by decide) (fun c_69 => ?_) (fun c_69 => ?_)
      · exact K74 X (hX.trans ((if_neg c_61).trans ((if_pos c_69)))) _ _ hP hD hS _ (lv_sub hl [0, 1] rfl)
      · refine lv_iconst (v := 4) hx hb dX0_eighthTowards_72 (by decide) ?_
        exact ret_i C () (hX.trans ((if_neg c_61).trans ((if_neg c_69)))) hP hD hS dX0_eighthTowards_73
  have K43 : ∀ (X : Int32) (_ : X = L_X0_eighthTowards_43 p0 p1) (H : Heap) (locs : List Loc) (_ : va_P D classes [] H) (_ : va_D A []) (_ : va_S A s.heap H locs) (ls : Array Slot) (_ : lv_has ls 4 [(0, .long p0), (2, .long p1)]), W p l e ({ frames := 0, cells := 0, slots := 0, locals := 0 } : Room) s m [.long p0, .long p1].toArray below meth c H locs 0 0 (MQ below (va_Qi (S := Unit) (fun z9 _ => X = z9) (PoB (S := Unit) D A (fun _ => [])) A) [.long p0, .long p1].toArray s 0 0 A) (F0 m 43 ls []) := by
    intro X hX H locs hP hD hS ls hl
    refine lv_lload_n hx hb dX0_eighthTowards_43 rfl (lv_at hl 1 rfl) ?_
    refine lv_lconst (v := 0) hx hb dX0_eighthTowards_44 (by decide) ?_
    refine W.lcmp hx hb dX0_eighthTowards_45 ?_
    refine lv_if_le (tgt := 58) hx hb dX0_eighthTowards_46 (by decide) (fun c_46 => ?_) (fun c_46 => ?_)
    · exact K58 X (hX.trans ((if_pos c_46))) _ _ hP hD hS _ (lv_sub hl [0, 1] rfl)
    · refine lv_lload_n hx hb dX0_eighthTowards_49 rfl (lv_at hl 0 rfl) ?_
      refine lv_lneg hx hb dX0_eighthTowards_50 ?_
      refine lv_lload_n hx hb dX0_eighthTowards_51 rfl (lv_at hl 1 rfl) ?_
      refine W.lcmp hx hb dX0_eighthTowards_52 ?_
      refine lv_if_lt (tgt := 58) hx hb dX0_eighthTowards_53 (by decide) (fun c_53 => ?_) (fun c_53 => ?_)
      · exact K58 X (hX.trans ((if_neg c_46).trans ((if_pos c_53)))) _ _ hP hD hS _ (lv_sub hl [0, 1] rfl)
      · refine lv_iconst (v := 3) hx hb dX0_eighthTowards_56 (by decide) ?_
        exact ret_i C () (hX.trans ((if_neg c_46).trans ((if_neg c_53)))) hP hD hS dX0_eighthTowards_57
  have K28 : ∀ (X : Int32) (_ : X = L_X0_eighthTowards_28 p0 p1) (H : Heap) (locs : List Loc) (_ : va_P D classes [] H) (_ : va_D A []) (_ : va_S A s.heap H locs) (ls : Array Slot) (_ : lv_has ls 4 [(0, .long p0), (2, .long p1)]), W p l e ({ frames := 0, cells := 0, slots := 0, locals := 0 } : Room) s m [.long p0, .long p1].toArray below meth c H locs 0 0 (MQ below (va_Qi (S := Unit) (fun z9 _ => X = z9) (PoB (S := Unit) D A (fun _ => [])) A) [.long p0, .long p1].toArray s 0 0 A) (F0 m 28 ls []) := by
    intro X hX H locs hP hD hS ls hl
    refine lv_lload_n hx hb dX0_eighthTowards_28 rfl (lv_at hl 0 rfl) ?_
    refine lv_lconst (v := 0) hx hb dX0_eighthTowards_29 (by decide) ?_
    refine W.lcmp hx hb dX0_eighthTowards_30 ?_
    refine lv_if_gt (tgt := 43) hx hb dX0_eighthTowards_31 (by decide) (fun c_31 => ?_) (fun c_31 => ?_)
    · exact K43 X (hX.trans ((if_pos c_31))) _ _ hP hD hS _ (lv_sub hl [0, 1] rfl)
    · refine lv_lload_n hx hb dX0_eighthTowards_34 rfl (lv_at hl 1 rfl) ?_
      refine lv_lload_n hx hb dX0_eighthTowards_35 rfl (lv_at hl 0 rfl) ?_
      refine lv_lneg hx hb dX0_eighthTowards_36 ?_
      refine W.lcmp hx hb dX0_eighthTowards_37 ?_
      refine lv_if_le (tgt := 43) hx hb dX0_eighthTowards_38 (by decide) (fun c_38 => ?_) (fun c_38 => ?_)
      · exact K43 X (hX.trans ((if_neg c_31).trans ((if_pos c_38)))) _ _ hP hD hS _ (lv_sub hl [0, 1] rfl)
      · refine lv_iconst (v := 2) hx hb dX0_eighthTowards_41 (by decide) ?_
        exact ret_i C () (hX.trans ((if_neg c_31).trans ((if_neg c_38)))) hP hD hS dX0_eighthTowards_42
  have K14 : ∀ (X : Int32) (_ : X = L_X0_eighthTowards_14 p0 p1) (H : Heap) (locs : List Loc) (_ : va_P D classes [] H) (_ : va_D A []) (_ : va_S A s.heap H locs) (ls : Array Slot) (_ : lv_has ls 4 [(0, .long p0), (2, .long p1)]), W p l e ({ frames := 0, cells := 0, slots := 0, locals := 0 } : Room) s m [.long p0, .long p1].toArray below meth c H locs 0 0 (MQ below (va_Qi (S := Unit) (fun z9 _ => X = z9) (PoB (S := Unit) D A (fun _ => [])) A) [.long p0, .long p1].toArray s 0 0 A) (F0 m 14 ls []) := by
    intro X hX H locs hP hD hS ls hl
    refine lv_lload_n hx hb dX0_eighthTowards_14 rfl (lv_at hl 0 rfl) ?_
    refine lv_lconst (v := 0) hx hb dX0_eighthTowards_15 (by decide) ?_
    refine W.lcmp hx hb dX0_eighthTowards_16 ?_
    refine lv_if_le (tgt := 28) hx hb dX0_eighthTowards_17 (by decide) (fun c_17 => ?_) (fun c_17 => ?_)
    · exact K28 X (hX.trans ((if_pos c_17))) _ _ hP hD hS _ (lv_sub hl [0, 1] rfl)
    · refine lv_lload_n hx hb dX0_eighthTowards_20 rfl (lv_at hl 1 rfl) ?_
      refine lv_lload_n hx hb dX0_eighthTowards_21 rfl (lv_at hl 0 rfl) ?_
      refine W.lcmp hx hb dX0_eighthTowards_22 ?_
      refine lv_if_lt (tgt := 28) hx hb dX0_eighthTowards_23 (by decide) (fun c_23 => ?_) (fun c_23 => ?_)
      · exact K28 X (hX.trans ((if_neg c_17).trans ((if_pos c_23)))) _ _ hP hD hS _ (lv_sub hl [0, 1] rfl)
      · refine lv_iconst (v := 1) hx hb dX0_eighthTowards_26 (by decide) ?_
        exact ret_i C () (hX.trans ((if_neg c_17).trans ((if_neg c_23)))) hP hD hS dX0_eighthTowards_27
  have hl : lv_has ls 4 [(0, .long p0), (2, .long p1)] := hl
  refine lv_lload_n hx hb dX0_eighthTowards_0 rfl (lv_at hl 1 rfl) ?_
  refine lv_lconst (v := 0) hx hb dX0_eighthTowards_1 (by decide) ?_
  refine W.lcmp hx hb dX0_eighthTowards_2 ?_
  refine lv_if_lt (tgt := 14) hx hb dX0_eighthTowards_3 (by decide) (fun c_3 => ?_) (fun c_3 => ?_)
  · exact K14 (F_X0_eighthTowards p0 p1) (if_pos c_3) _ _ hP hD hS _ (lv_sub hl [0, 1] rfl)
  · refine lv_lload_n hx hb dX0_eighthTowards_6 rfl (lv_at hl 0 rfl) ?_
    refine lv_lload_n hx hb dX0_eighthTowards_7 rfl (lv_at hl 1 rfl) ?_
    refine W.lcmp hx hb dX0_eighthTowards_8 ?_
    refine lv_if_le (tgt := 14) hx hb dX0_eighthTowards_9 (by decide) (fun c_9 => ?_) (fun c_9 => ?_)
    · exact K14 (F_X0_eighthTowards p0 p1) ((if_neg c_3).trans ((if_pos c_9))) _ _ hP hD hS _ (lv_sub hl [0, 1] rfl)
    · refine lv_iconst (v := 0) hx hb dX0_eighthTowards_12 (by decide) ?_
      exact ret_i C () ((if_neg c_3).trans ((if_neg c_9))) hP hD hS dX0_eighthTowards_13
def F_X0_eighthAt (r : Rd) (p0 : Int32) (p1 : Int32) : Int32 := F_X0_eighthTowards (((2 * r.2.2.2.2.2.2.2.2.2.1) * p0.toInt64) - r.2.2.2.2.2.2.2.2.2.2.1) (((2 * r.2.2.2.2.2.2.2.2.2.1) * p1.toInt64) - r.2.2.2.2.2.2.2.2.2.2.2.1)
theorem iX0_eighthAt_X0 : ∀ w ∈ u_ws RX0 TX0 13, w ∈ wsX0_eighthAt := fun _ h => List.mem_cons_of_mem _ (List.mem_append_right _ (h))
set_option maxHeartbeats 4000000 in
set_option maxRecDepth 100000 in
theorem c_X0_eighthAt (l : Launch) (D : va_G) (cI cZ : ClassId) (h0 : Nat) (r : Rd) (p0 : Int32) (p1 : Int32) : CTi l yX0_eighthAt wsX0_eighthAt ({ frames := 1, cells := 0, slots := 0, locals := 23 } : Room) D cI cZ [.ref h0, .int p0, .int p1] [(h0, .inr (0, rdv r))] (S := Unit) (fun z9 _ => F_X0_eighthAt r p0 p1 = z9) (fun _ => [(h0, .inr (0, rdv r))]) := by
  refine enterM (cc := cX0_eighthAt) (maxL := 3) (ret := (some .int)) (own := RX0) (Qc := fun A => va_Qi (S := Unit) (fun z9 _ => F_X0_eighthAt r p0 p1 = z9) (PoB (S := Unit) D A (fun _ => [(h0, .inr (0, rdv r))])) A) (by decide) rfl rfl (Nat.le_of_ble_eq_true rfl) ?_
  intro p e s m below meth c A ls C hK hA hP hD hS hl
  have hx := C.1
  have hb := C.2.1
  have hown := C.2.2.2.1
  have hts := C.2.2.2.2.1
  have _huse := hts
  have hl : lv_has ls 3 [(0, .ref h0), (1, .int p0), (2, .int p1)] := hl
  refine lv_ldc2 (v := 2) hx hb hown (hts (.constantLong RX0 55 (2)) (List.mem_of_getElem? (i := 1) rfl)) dX0_eighthAt_0 ?_
  refine lv_aload_n hx hb dX0_eighthAt_3 rfl (lv_at hl 0 rfl) ?_
  refine va_get (D := D) (ci := 0) (v := .long r.2.2.2.2.2.2.2.2.2.1) (C := RX0) (T := TX0) (N := 13) hx hb hts iX0_eighthAt_X0 hown hK.1 hP 0 rfl rfl 9 (by decide) (hts (.fieldLink RX0 43 "CompassBias$Round" "spread" "J") (List.mem_of_getElem? (i := 2) rfl)) (fun _ h9 => h9) rfl dX0_eighthAt_4 ?_
  refine lv_lmul hx hb dX0_eighthAt_7 ?_
  refine lv_iload_n hx hb dX0_eighthAt_8 rfl (lv_at hl 1 rfl) ?_
  refine lv_i2l (v := p0.toInt64) hx hb dX0_eighthAt_9 rfl ?_
  refine lv_lmul hx hb dX0_eighthAt_10 ?_
  refine lv_aload_n hx hb dX0_eighthAt_11 rfl (lv_at hl 0 rfl) ?_
  refine va_get (D := D) (ci := 0) (v := .long r.2.2.2.2.2.2.2.2.2.2.1) (C := RX0) (T := TX0) (N := 13) hx hb hts iX0_eighthAt_X0 hown hK.1 hP 0 rfl rfl 10 (by decide) (hts (.fieldLink RX0 46 "CompassBias$Round" "upperA" "J") (List.mem_of_getElem? (i := 3) rfl)) (fun _ h9 => h9) rfl dX0_eighthAt_12 ?_
  refine lv_lsub hx hb dX0_eighthAt_15 ?_
  refine lv_ldc2 (v := 2) hx hb hown (hts (.constantLong RX0 55 (2)) (List.mem_of_getElem? (i := 1) rfl)) dX0_eighthAt_16 ?_
  refine lv_aload_n hx hb dX0_eighthAt_19 rfl (lv_at hl 0 rfl) ?_
  refine va_get (D := D) (ci := 0) (v := .long r.2.2.2.2.2.2.2.2.2.1) (C := RX0) (T := TX0) (N := 13) hx hb hts iX0_eighthAt_X0 hown hK.1 hP 0 rfl rfl 9 (by decide) (hts (.fieldLink RX0 43 "CompassBias$Round" "spread" "J") (List.mem_of_getElem? (i := 2) rfl)) (fun _ h9 => h9) rfl dX0_eighthAt_20 ?_
  refine lv_lmul hx hb dX0_eighthAt_23 ?_
  refine lv_iload_n hx hb dX0_eighthAt_24 rfl (lv_at hl 2 rfl) ?_
  refine lv_i2l (v := p1.toInt64) hx hb dX0_eighthAt_25 rfl ?_
  refine lv_lmul hx hb dX0_eighthAt_26 ?_
  refine lv_aload_n hx hb dX0_eighthAt_27 rfl (lv_at hl 0 rfl) ?_
  refine va_get (D := D) (ci := 0) (v := .long r.2.2.2.2.2.2.2.2.2.2.2.1) (C := RX0) (T := TX0) (N := 13) hx hb hts iX0_eighthAt_X0 hown hK.1 hP 0 rfl rfl 11 (by decide) (hts (.fieldLink RX0 49 "CompassBias$Round" "upperB" "J") (List.mem_of_getElem? (i := 4) rfl)) (fun _ h9 => h9) rfl dX0_eighthAt_28 ?_
  refine lv_lsub hx hb dX0_eighthAt_31 ?_
  refine aft_i (wr := [(h0, .inr (0, rdv r))]) (run_S (As := [.long (((2 * r.2.2.2.2.2.2.2.2.2.1) * p0.toInt64) - r.2.2.2.2.2.2.2.2.2.2.1), .long (((2 * r.2.2.2.2.2.2.2.2.2.1) * p1.toInt64) - r.2.2.2.2.2.2.2.2.2.2.2.1)]) (rest := []) C (c_X0_eighthTowards l D cI cZ (((2 * r.2.2.2.2.2.2.2.2.2.1) * p0.toInt64) - r.2.2.2.2.2.2.2.2.2.2.1) (((2 * r.2.2.2.2.2.2.2.2.2.1) * p1.toInt64) - r.2.2.2.2.2.2.2.2.2.2.2.1)) (va_cwS 2 hts gX0_eighthAt_X0_eighthTowards rfl rfl rfl (by decide +kernel) ⟨Nat.le_of_ble_eq_true rfl, Nat.le_of_ble_eq_true rfl⟩) hK (hP.sub (ws' := []) [] rfl) (hD.sub (ws' := []) [] (by decide) rfl) rfl hl.1 rfl (Nat.le_of_ble_eq_true rfl) dX0_eighthAt_32 (Nat.zero_le _) (Nat.zero_le _)) hP hD hS hA [] [0] rfl rfl (by decide) (by decide) (fun z9 u9 H locs hw hP hD hS => ?_)
  subst hw
  have hP : va_P D classes [(h0, .inr (0, rdv r))] H := hP
  have hD : va_D A [(h0, .inr (0, rdv r))] := hD
  exact ret_i C () rfl hP hD hS dX0_eighthAt_35
def L_X1_become_2 (b : Sm) : Nat → Int32 → Sm → Sm
  | 0, _, _ => (fun _ => 0, fun _ => 0, 0, 0, 0)
  | n + 1, i, v => if 10 ≤ i then ((v.1, v.2.1, b.2.2.1, b.2.2.2.1, b.2.2.2.2)) else (L_X1_become_2 b n (i + 1) (upd v.1 i.toNatClampNeg (b.1 i.toNatClampNeg), upd v.2.1 i.toNatClampNeg (b.2.1 i.toNatClampNeg), v.2.2.1, v.2.2.2.1, v.2.2.2.2))
def F_X1_become (a : Sm) (b : Sm) : Sm := L_X1_become_2 b 11 0 a
theorem iX1_become_X1 : ∀ w ∈ u_ws RX1 TX1 5, w ∈ wsX1_become := fun _ h => List.mem_cons_of_mem _ (List.mem_append_right _ (h))
set_option maxHeartbeats 4000000 in
set_option maxRecDepth 100000 in
theorem c_X1_become (l : Launch) (D : va_G) (cI cZ : ClassId) (h0 h1 ax ay bx bw : Nat) (a : Sm) (b : Sm) : CTv l yX1_become wsX1_become ({ frames := 0, cells := 0, slots := 0, locals := 0 } : Room) D cI cZ [.ref h0, .ref h1] [(h0, .inr (1, [.ref ax, .ref ay, .int a.2.2.1, .int a.2.2.2.1, .int a.2.2.2.2])), (ax, .inl (cI, 10, .inl a.1)), (ay, .inl (cI, 10, .inl a.2.1)), (h1, .inr (1, [.ref bx, .ref bw, .int b.2.2.1, .int b.2.2.2.1, .int b.2.2.2.2])), (bx, .inl (cI, 10, .inl b.1)), (bw, .inl (cI, 10, .inl b.2.1))] (S := Sm) (fun u9 => F_X1_become a b = u9) (fun u => [(h0, .inr (1, [.ref ax, .ref ay, .int u.2.2.1, .int u.2.2.2.1, .int u.2.2.2.2])), (ax, .inl (cI, 10, .inl u.1)), (ay, .inl (cI, 10, .inl u.2.1)), (h1, .inr (1, [.ref bx, .ref bw, .int b.2.2.1, .int b.2.2.2.1, .int b.2.2.2.2])), (bx, .inl (cI, 10, .inl b.1)), (bw, .inl (cI, 10, .inl b.2.1))]) := by
  refine enterM (cc := cX1_become) (maxL := 3) (ret := none) (own := RX1) (Qc := fun A => va_Qv (S := Sm) (fun u9 => F_X1_become a b = u9) (PoB (S := Sm) D A (fun u => [(h0, .inr (1, [.ref ax, .ref ay, .int u.2.2.1, .int u.2.2.2.1, .int u.2.2.2.2])), (ax, .inl (cI, 10, .inl u.1)), (ay, .inl (cI, 10, .inl u.2.1)), (h1, .inr (1, [.ref bx, .ref bw, .int b.2.2.1, .int b.2.2.2.1, .int b.2.2.2.2])), (bx, .inl (cI, 10, .inl b.1)), (bw, .inl (cI, 10, .inl b.2.1))])) A) (by decide) rfl rfl (Nat.le_of_ble_eq_true rfl) ?_
  intro p e s m below meth c A ls C hK hA hP hD hS hl
  have hx := C.1
  have hb := C.2.1
  have hown := C.2.2.2.1
  have hts := C.2.2.2.2.1
  have _huse := hts
  have K2 : ∀ (n : Nat) (k : Nat) (i : Int32) (v : Sm) (_ : i.toInt = (k : Int)) (_ : k ≤ 10) (_ : 10 < k + n) (X : Sm) (_ : X = L_X1_become_2 b n i v) (H : Heap) (locs : List Loc) (_ : va_P D classes [(h0, .inr (1, [.ref ax, .ref ay, .int v.2.2.1, .int v.2.2.2.1, .int v.2.2.2.2])), (ax, .inl (cI, 10, .inl v.1)), (ay, .inl (cI, 10, .inl v.2.1)), (h1, .inr (1, [.ref bx, .ref bw, .int b.2.2.1, .int b.2.2.2.1, .int b.2.2.2.2])), (bx, .inl (cI, 10, .inl b.1)), (bw, .inl (cI, 10, .inl b.2.1))] H) (_ : va_D A [(h0, .inr (1, [.ref ax, .ref ay, .int v.2.2.1, .int v.2.2.2.1, .int v.2.2.2.2])), (ax, .inl (cI, 10, .inl v.1)), (ay, .inl (cI, 10, .inl v.2.1)), (h1, .inr (1, [.ref bx, .ref bw, .int b.2.2.1, .int b.2.2.2.1, .int b.2.2.2.2])), (bx, .inl (cI, 10, .inl b.1)), (bw, .inl (cI, 10, .inl b.2.1))]) (_ : va_S A s.heap H locs) (ls : Array Slot) (_ : lv_has ls 3 [(0, .ref h0), (1, .ref h1), (2, .int i)]), W p l e ({ frames := 0, cells := 0, slots := 0, locals := 0 } : Room) s m [.ref h0, .ref h1].toArray below meth c H locs 0 0 (MQ below (va_Qv (S := Sm) (fun u9 => X = u9) (PoB (S := Sm) D A (fun u => [(h0, .inr (1, [.ref ax, .ref ay, .int u.2.2.1, .int u.2.2.2.1, .int u.2.2.2.2])), (ax, .inl (cI, 10, .inl u.1)), (ay, .inl (cI, 10, .inl u.2.1)), (h1, .inr (1, [.ref bx, .ref bw, .int b.2.2.1, .int b.2.2.2.1, .int b.2.2.2.2])), (bx, .inl (cI, 10, .inl b.1)), (bw, .inl (cI, 10, .inl b.2.1))])) A) [.ref h0, .ref h1].toArray s 0 0 A) (F0 m 2 ls []) := by
    intro n
    induction n with
    | zero =>
      intro k i v hi hk hfu X hX H locs hP hD hS ls hl
      exact absurd hfu (by omega)
    | succ n ih =>
      intro k i v hi hk hfu X hX H locs hP hD hS ls hl
      refine lv_iload_n hx hb dX1_become_2 rfl (lv_at hl 2 rfl) ?_
      refine lv_bipush (v := 10) hx hb dX1_become_3 (by decide) ?_
      refine lv_icmp_ge (tgt := 38) hx hb dX1_become_5 (by decide) (fun c_5 => ?_) (fun c_5 => ?_)
      · refine lv_aload_n hx hb dX1_become_38 rfl (lv_at hl 0 rfl) ?_
        refine lv_aload_n hx hb dX1_become_39 rfl (lv_at hl 1 rfl) ?_
        refine va_get (D := D) (ci := 1) (v := .int b.2.2.1) (C := RX1) (T := TX1) (N := 5) hx hb hts iX1_become_X1 hown hK.1 hP 3 rfl rfl 2 (by decide) (hts (.fieldLink RX1 18 "CompassBias$Samples" "many" "I") (List.mem_of_getElem? (i := 3) rfl)) (fun _ h9 => h9) rfl dX1_become_40 ?_
        refine va_put (D := D) (ci := 1) (v := .int b.2.2.1) (ty := .int) (C := RX1) (T := TX1) (N := 5) hx hb hts iX1_become_X1 tyX1 tyX1_ok nmX1 hown hK.1 hP hD hS 0 rfl rfl 2 (by decide) (hts (.fieldLink RX1 18 "CompassBias$Samples" "many" "I") (List.mem_of_getElem? (i := 3) rfl)) (fun _ h9 => h9) rfl (by decide +kernel) rfl rfl (Nat.le_of_ble_eq_true rfl) dX1_become_43 (fun H locs hP hD hS => ?_)
        have hP : va_P D classes [(h0, .inr (1, [.ref ax, .ref ay, .int b.2.2.1, .int v.2.2.2.1, .int v.2.2.2.2])), (ax, .inl (cI, 10, .inl v.1)), (ay, .inl (cI, 10, .inl v.2.1)), (h1, .inr (1, [.ref bx, .ref bw, .int b.2.2.1, .int b.2.2.2.1, .int b.2.2.2.2])), (bx, .inl (cI, 10, .inl b.1)), (bw, .inl (cI, 10, .inl b.2.1))] H := hP
        have hD : va_D A [(h0, .inr (1, [.ref ax, .ref ay, .int b.2.2.1, .int v.2.2.2.1, .int v.2.2.2.2])), (ax, .inl (cI, 10, .inl v.1)), (ay, .inl (cI, 10, .inl v.2.1)), (h1, .inr (1, [.ref bx, .ref bw, .int b.2.2.1, .int b.2.2.2.1, .int b.2.2.2.2])), (bx, .inl (cI, 10, .inl b.1)), (bw, .inl (cI, 10, .inl b.2.1))] := hD
        refine lv_aload_n hx hb dX1_become_46 rfl (lv_at hl 0 rfl) ?_
        refine lv_aload_n hx hb dX1_become_47 rfl (lv_at hl 1 rfl) ?_
        refine va_get (D := D) (ci := 1) (v := .int b.2.2.2.1) (C := RX1) (T := TX1) (N := 5) hx hb hts iX1_become_X1 hown hK.1 hP 3 rfl rfl 3 (by decide) (hts (.fieldLink RX1 22 "CompassBias$Samples" "taken" "I") (List.mem_of_getElem? (i := 4) rfl)) (fun _ h9 => h9) rfl dX1_become_48 ?_
        refine va_put (D := D) (ci := 1) (v := .int b.2.2.2.1) (ty := .int) (C := RX1) (T := TX1) (N := 5) hx hb hts iX1_become_X1 tyX1 tyX1_ok nmX1 hown hK.1 hP hD hS 0 rfl rfl 3 (by decide) (hts (.fieldLink RX1 22 "CompassBias$Samples" "taken" "I") (List.mem_of_getElem? (i := 4) rfl)) (fun _ h9 => h9) rfl (by decide +kernel) rfl rfl (Nat.le_of_ble_eq_true rfl) dX1_become_51 (fun H locs hP hD hS => ?_)
        have hP : va_P D classes [(h0, .inr (1, [.ref ax, .ref ay, .int b.2.2.1, .int b.2.2.2.1, .int v.2.2.2.2])), (ax, .inl (cI, 10, .inl v.1)), (ay, .inl (cI, 10, .inl v.2.1)), (h1, .inr (1, [.ref bx, .ref bw, .int b.2.2.1, .int b.2.2.2.1, .int b.2.2.2.2])), (bx, .inl (cI, 10, .inl b.1)), (bw, .inl (cI, 10, .inl b.2.1))] H := hP
        have hD : va_D A [(h0, .inr (1, [.ref ax, .ref ay, .int b.2.2.1, .int b.2.2.2.1, .int v.2.2.2.2])), (ax, .inl (cI, 10, .inl v.1)), (ay, .inl (cI, 10, .inl v.2.1)), (h1, .inr (1, [.ref bx, .ref bw, .int b.2.2.1, .int b.2.2.2.1, .int b.2.2.2.2])), (bx, .inl (cI, 10, .inl b.1)), (bw, .inl (cI, 10, .inl b.2.1))] := hD
        refine lv_aload_n hx hb dX1_become_54 rfl (lv_at hl 0 rfl) ?_
        refine lv_aload_n hx hb dX1_become_55 rfl (lv_at hl 1 rfl) ?_
        refine va_get (D := D) (ci := 1) (v := .int b.2.2.2.2) (C := RX1) (T := TX1) (N := 5) hx hb hts iX1_become_X1 hown hK.1 hP 3 rfl rfl 4 (by decide) (hts (.fieldLink RX1 25 "CompassBias$Samples" "needed" "I") (List.mem_of_getElem? (i := 5) rfl)) (fun _ h9 => h9) rfl dX1_become_56 ?_
        refine va_put (D := D) (ci := 1) (v := .int b.2.2.2.2) (ty := .int) (C := RX1) (T := TX1) (N := 5) hx hb hts iX1_become_X1 tyX1 tyX1_ok nmX1 hown hK.1 hP hD hS 0 rfl rfl 4 (by decide) (hts (.fieldLink RX1 25 "CompassBias$Samples" "needed" "I") (List.mem_of_getElem? (i := 5) rfl)) (fun _ h9 => h9) rfl (by decide +kernel) rfl rfl (Nat.le_of_ble_eq_true rfl) dX1_become_59 (fun H locs hP hD hS => ?_)
        have hP : va_P D classes [(h0, .inr (1, [.ref ax, .ref ay, .int b.2.2.1, .int b.2.2.2.1, .int b.2.2.2.2])), (ax, .inl (cI, 10, .inl v.1)), (ay, .inl (cI, 10, .inl v.2.1)), (h1, .inr (1, [.ref bx, .ref bw, .int b.2.2.1, .int b.2.2.2.1, .int b.2.2.2.2])), (bx, .inl (cI, 10, .inl b.1)), (bw, .inl (cI, 10, .inl b.2.1))] H := hP
        have hD : va_D A [(h0, .inr (1, [.ref ax, .ref ay, .int b.2.2.1, .int b.2.2.2.1, .int b.2.2.2.2])), (ax, .inl (cI, 10, .inl v.1)), (ay, .inl (cI, 10, .inl v.2.1)), (h1, .inr (1, [.ref bx, .ref bw, .int b.2.2.1, .int b.2.2.2.1, .int b.2.2.2.2])), (bx, .inl (cI, 10, .inl b.1)), (bw, .inl (cI, 10, .inl b.2.1))] := hD
        exact ret_v C (v.1, v.2.1, b.2.2.1, b.2.2.2.1, b.2.2.2.2) (hX.trans ((if_pos c_5))) hP hD hS dX1_become_62
      · refine lv_aload_n hx hb dX1_become_8 rfl (lv_at hl 0 rfl) ?_
        refine va_get (D := D) (ci := 1) (v := .ref ax) (C := RX1) (T := TX1) (N := 5) hx hb hts iX1_become_X1 hown hK.1 hP 0 rfl rfl 0 (by decide) (hts (.fieldLink RX1 9 "CompassBias$Samples" "xs" "[I") (List.mem_of_getElem? (i := 1) rfl)) (fun _ h9 => h9) rfl dX1_become_9 ?_
        refine lv_iload_n hx hb dX1_become_12 rfl (lv_at hl 2 rfl) ?_
        refine lv_aload_n hx hb dX1_become_13 rfl (lv_at hl 1 rfl) ?_
        refine va_get (D := D) (ci := 1) (v := .ref bx) (C := RX1) (T := TX1) (N := 5) hx hb hts iX1_become_X1 hown hK.1 hP 3 rfl rfl 0 (by decide) (hts (.fieldLink RX1 9 "CompassBias$Samples" "xs" "[I") (List.mem_of_getElem? (i := 1) rfl)) (fun _ h9 => h9) rfl dX1_become_14 ?_
        refine lv_iload_n hx hb dX1_become_17 rfl (lv_at hl 2 rfl) ?_
        refine va_iald hx hb hK.1 hP 4 0 rfl rfl (vp_of hi (i_lt10 hi c_5)) dX1_become_18 ?_
        refine va_iast hx hb hK.1 hP hD hS 1 0 rfl rfl (vp_of hi (i_lt10 hi c_5)) dX1_become_19 (fun H locs hP hD hS => ?_)
        have hP : va_P D classes [(h0, .inr (1, [.ref ax, .ref ay, .int v.2.2.1, .int v.2.2.2.1, .int v.2.2.2.2])), (ax, .inl (cI, 10, .inl (upd v.1 i.toNatClampNeg (b.1 i.toNatClampNeg)))), (ay, .inl (cI, 10, .inl v.2.1)), (h1, .inr (1, [.ref bx, .ref bw, .int b.2.2.1, .int b.2.2.2.1, .int b.2.2.2.2])), (bx, .inl (cI, 10, .inl b.1)), (bw, .inl (cI, 10, .inl b.2.1))] H := hP
        have hD : va_D A [(h0, .inr (1, [.ref ax, .ref ay, .int v.2.2.1, .int v.2.2.2.1, .int v.2.2.2.2])), (ax, .inl (cI, 10, .inl (upd v.1 i.toNatClampNeg (b.1 i.toNatClampNeg)))), (ay, .inl (cI, 10, .inl v.2.1)), (h1, .inr (1, [.ref bx, .ref bw, .int b.2.2.1, .int b.2.2.2.1, .int b.2.2.2.2])), (bx, .inl (cI, 10, .inl b.1)), (bw, .inl (cI, 10, .inl b.2.1))] := hD
        refine lv_aload_n hx hb dX1_become_20 rfl (lv_at hl 0 rfl) ?_
        refine va_get (D := D) (ci := 1) (v := .ref ay) (C := RX1) (T := TX1) (N := 5) hx hb hts iX1_become_X1 hown hK.1 hP 0 rfl rfl 1 (by decide) (hts (.fieldLink RX1 15 "CompassBias$Samples" "ys" "[I") (List.mem_of_getElem? (i := 2) rfl)) (fun _ h9 => h9) rfl dX1_become_21 ?_
        refine lv_iload_n hx hb dX1_become_24 rfl (lv_at hl 2 rfl) ?_
        refine lv_aload_n hx hb dX1_become_25 rfl (lv_at hl 1 rfl) ?_
        refine va_get (D := D) (ci := 1) (v := .ref bw) (C := RX1) (T := TX1) (N := 5) hx hb hts iX1_become_X1 hown hK.1 hP 3 rfl rfl 1 (by decide) (hts (.fieldLink RX1 15 "CompassBias$Samples" "ys" "[I") (List.mem_of_getElem? (i := 2) rfl)) (fun _ h9 => h9) rfl dX1_become_26 ?_
        refine lv_iload_n hx hb dX1_become_29 rfl (lv_at hl 2 rfl) ?_
        refine va_iald hx hb hK.1 hP 5 0 rfl rfl (vp_of hi (i_lt10 hi c_5)) dX1_become_30 ?_
        refine va_iast hx hb hK.1 hP hD hS 2 0 rfl rfl (vp_of hi (i_lt10 hi c_5)) dX1_become_31 (fun H locs hP hD hS => ?_)
        have hP : va_P D classes [(h0, .inr (1, [.ref ax, .ref ay, .int v.2.2.1, .int v.2.2.2.1, .int v.2.2.2.2])), (ax, .inl (cI, 10, .inl (upd v.1 i.toNatClampNeg (b.1 i.toNatClampNeg)))), (ay, .inl (cI, 10, .inl (upd v.2.1 i.toNatClampNeg (b.2.1 i.toNatClampNeg)))), (h1, .inr (1, [.ref bx, .ref bw, .int b.2.2.1, .int b.2.2.2.1, .int b.2.2.2.2])), (bx, .inl (cI, 10, .inl b.1)), (bw, .inl (cI, 10, .inl b.2.1))] H := hP
        have hD : va_D A [(h0, .inr (1, [.ref ax, .ref ay, .int v.2.2.1, .int v.2.2.2.1, .int v.2.2.2.2])), (ax, .inl (cI, 10, .inl (upd v.1 i.toNatClampNeg (b.1 i.toNatClampNeg)))), (ay, .inl (cI, 10, .inl (upd v.2.1 i.toNatClampNeg (b.2.1 i.toNatClampNeg)))), (h1, .inr (1, [.ref bx, .ref bw, .int b.2.2.1, .int b.2.2.2.1, .int b.2.2.2.2])), (bx, .inl (cI, 10, .inl b.1)), (bw, .inl (cI, 10, .inl b.2.1))] := hD
        refine lv_iinc (v := i + 1) (lv' := [(2, .int (i + 1)), (0, .ref h0), (1, .ref h1)]) hx hb dX1_become_32 hl (k := 2) rfl rfl (by decide) rfl (fun ls hl => ?_)
        refine lv_goto (tgt := 2) hx hb dX1_become_35 (by decide) ?_
        exact ih (k + 1) (i + 1) (upd v.1 i.toNatClampNeg (b.1 i.toNatClampNeg), upd v.2.1 i.toNatClampNeg (b.2.1 i.toNatClampNeg), v.2.2.1, v.2.2.2.1, v.2.2.2.2) (i_succ hi (by omega)) (i_lt10 hi c_5) (by omega) X (hX.trans ((if_neg c_5))) _ _ hP hD hS _ (lv_sub hl [1, 2, 0] rfl)
  have hl : lv_has ls 3 [(0, .ref h0), (1, .ref h1)] := hl
  refine lv_iconst (v := 0) hx hb dX1_become_0 (by decide) ?_
  refine lv_istore_n (lv' := [(2, .int 0), (0, .ref h0), (1, .ref h1)]) hx hb dX1_become_1 rfl hl (by decide) rfl (fun ls hl => ?_)
  exact K2 11 0 0 a rfl (by omega) (by omega) (F_X1_become a b) rfl _ _ hP hD hS _ (lv_sub hl [1, 2, 0] rfl)
