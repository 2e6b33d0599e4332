def F_X3_in (p0 : Int64) (p1 : Int64) (p2 : Int64) : Int32 := if (lg_cmp p0 p1) < 0 then (0) else (if 0 < (lg_cmp p0 p2) then (0) else (1))
set_option maxHeartbeats 4000000 in
set_option maxRecDepth 100000 in
theorem c_X3_in (l : Launch) (D : va_G) (cI cZ : ClassId) (p0 : Int64) (p1 : Int64) (p2 : Int64) : CTi l yX3_in wsX3_in ({ frames := 0, cells := 0, slots := 0, locals := 0 } : Room) D cI cZ [.long p0, .long p1, .long p2] [] (S := Unit) (fun z9 _ => F_X3_in p0 p1 p2 = z9) (fun _ => []) := by
  refine enterM (cc := cX3_in) (maxL := 6) (ret := (some .boolean)) (own := RX3) (Qc := fun A => va_Qi (S := Unit) (fun z9 _ => F_X3_in p0 p1 p2 = z9) (PoB (S := Unit) D A (fun _ => [])) A) (by decide) rfl rfl (Nat.le_of_ble_eq_true rfl) ?_
  intro p e s m below meth c A ls C hK hA hP hD hS hl
  have hx := C.1
  have hb := C.2.1
  have hown := C.2.2.2.1
  have hts := C.2.2.2.2.1
  have _huse := hts
  have hl : lv_has ls 6 [(0, .long p0), (2, .long p1), (4, .long p2)] := hl
  refine lv_lload_n hx hb dX3_in_0 rfl (lv_at hl 0 rfl) ?_
  refine lv_lload_n hx hb dX3_in_1 rfl (lv_at hl 1 rfl) ?_
  refine W.lcmp hx hb dX3_in_2 ?_
  refine lv_if_lt (tgt := 17) hx hb dX3_in_3 (by decide) (fun c_3 => ?_) (fun c_3 => ?_)
  · refine lv_iconst (v := 0) hx hb dX3_in_17 (by decide) ?_
    exact ret_z C (Or.inl rfl) () (if_pos c_3) hP hD hS dX3_in_18
  · refine lv_lload_n hx hb dX3_in_6 rfl (lv_at hl 0 rfl) ?_
    refine lv_lload hx hb dX3_in_7 (lv_at hl 2 rfl) ?_
    refine W.lcmp hx hb dX3_in_9 ?_
    refine lv_if_gt (tgt := 17) hx hb dX3_in_10 (by decide) (fun c_10 => ?_) (fun c_10 => ?_)
    · refine lv_iconst (v := 0) hx hb dX3_in_17 (by decide) ?_
      exact ret_z C (Or.inl rfl) () ((if_neg c_3).trans ((if_pos c_10))) hP hD hS dX3_in_18
    · refine lv_iconst (v := 1) hx hb dX3_in_13 (by decide) ?_
      refine lv_goto (tgt := 18) hx hb dX3_in_14 (by decide) ?_
      exact ret_z C (Or.inr rfl) () ((if_neg c_3).trans ((if_neg c_10))) hP hD hS dX3_in_18
def F_X3_isHere (p0 : Int32) (p1 : Int32) : Int32 := if (F_X3_in p0.toInt64 (-40) 40) = 0 then (0) else (if (F_X3_in p1.toInt64 (-40) 40) = 0 then (0) else (1))
set_option maxHeartbeats 4000000 in
set_option maxRecDepth 100000 in
theorem c_X3_isHere (l : Launch) (D : va_G) (cI cZ : ClassId) (p0 : Int32) (p1 : Int32) : CTi l yX3_isHere wsX3_isHere ({ frames := 1, cells := 0, slots := 0, locals := 25 } : Room) D cI cZ [.int p0, .int p1] [] (S := Unit) (fun z9 _ => F_X3_isHere p0 p1 = z9) (fun _ => []) := by
  refine enterM (cc := cX3_isHere) (maxL := 2) (ret := (some .boolean)) (own := RX3) (Qc := fun A => va_Qi (S := Unit) (fun z9 _ => F_X3_isHere p0 p1 = z9) (PoB (S := Unit) D A (fun _ => [])) A) (by decide) rfl rfl (Nat.le_of_ble_eq_true rfl) ?_
  intro p e s m below meth c A ls C hK hA hP hD hS hl
  have hx := C.1
  have hb := C.2.1
  have hown := C.2.2.2.1
  have hts := C.2.2.2.2.1
  have _huse := hts
  have hl : lv_has ls 2 [(0, .int p0), (1, .int p1)] := hl
  refine lv_iload_n hx hb dX3_isHere_0 rfl (lv_at hl 0 rfl) ?_
  refine lv_i2l (v := p0.toInt64) hx hb dX3_isHere_1 rfl ?_
  refine lv_ldc2 (v := (-40)) hx hb hown (hts (.constantLong RX3 24 (-40)) (List.mem_of_getElem? (i := 1) rfl)) dX3_isHere_2 ?_
  refine lv_ldc2 (v := 40) hx hb hown (hts (.constantLong RX3 26 (40)) (List.mem_of_getElem? (i := 2) rfl)) dX3_isHere_5 ?_
  refine aft_i (wr := []) (run_S (As := [.long p0.toInt64, .long (-40), .long 40]) (rest := []) C (c_X3_in l D cI cZ p0.toInt64 (-40) 40) (va_cwS 3 hts gX3_isHere_X3_in rfl rfl rfl (by decide +kernel) ⟨Nat.le_of_ble_eq_true rfl, Nat.le_of_ble_eq_true rfl⟩) hK (hP.sub (ws' := []) [] rfl) (hD.sub (ws' := []) [] (by decide) rfl) rfl hl.1 rfl (Nat.le_of_ble_eq_true rfl) dX3_isHere_8 (Nat.zero_le _) (Nat.zero_le _)) hP hD hS hA [] [] rfl rfl (by decide) (by decide) (fun z9 u9 H locs hw hP hD hS => ?_)
  subst hw
  have hP : va_P D classes [] H := hP
  have hD : va_D A [] := hD
  refine lv_if_eq (tgt := 32) hx hb dX3_isHere_11 (by decide) (fun c_11 => ?_) (fun c_11 => ?_)
  · refine lv_iconst (v := 0) hx hb dX3_isHere_32 (by decide) ?_
    exact ret_z C (Or.inl rfl) () (if_pos c_11) hP hD hS dX3_isHere_33
  · refine lv_iload_n hx hb dX3_isHere_14 rfl (lv_at hl 1 rfl) ?_
    refine lv_i2l (v := p1.toInt64) hx hb dX3_isHere_15 rfl ?_
    refine lv_ldc2 (v := (-40)) hx hb hown (hts (.constantLong RX3 24 (-40)) (List.mem_of_getElem? (i := 1) rfl)) dX3_isHere_16 ?_
    refine lv_ldc2 (v := 40) hx hb hown (hts (.constantLong RX3 26 (40)) (List.mem_of_getElem? (i := 2) rfl)) dX3_isHere_19 ?_
    refine aft_i (wr := []) (run_S (As := [.long p1.toInt64, .long (-40), .long 40]) (rest := []) C (c_X3_in l D cI cZ p1.toInt64 (-40) 40) (va_cwS 3 hts gX3_isHere_X3_in rfl rfl rfl (by decide +kernel) ⟨Nat.le_of_ble_eq_true rfl, Nat.le_of_ble_eq_true rfl⟩) hK (hP.sub (ws' := []) [] rfl) (hD.sub (ws' := []) [] (by decide) rfl) rfl hl.1 rfl (Nat.le_of_ble_eq_true rfl) dX3_isHere_22 (Nat.zero_le _) (Nat.zero_le _)) hP hD hS hA [] [] rfl rfl (by decide) (by decide) (fun z9 u9 H locs hw hP hD hS => ?_)
    subst hw
    have hP : va_P D classes [] H := hP
    have hD : va_D A [] := hD
    refine lv_if_eq (tgt := 32) hx hb dX3_isHere_25 (by decide) (fun c_25 => ?_) (fun c_25 => ?_)
    · refine lv_iconst (v := 0) hx hb dX3_isHere_32 (by decide) ?_
      exact ret_z C (Or.inl rfl) () ((if_neg c_11).trans ((if_pos c_25))) hP hD hS dX3_isHere_33
    · refine lv_iconst (v := 1) hx hb dX3_isHere_28 (by decide) ?_
      refine lv_goto (tgt := 33) hx hb dX3_isHere_29 (by decide) ?_
      exact ret_z C (Or.inr rfl) () ((if_neg c_11).trans ((if_neg c_25))) hP hD hS dX3_isHere_33
def L_X3_size_4 (p0 : Int32) : Nat → Int32 → Int32 → Int32
  | 0, _, _ => 0
  | n + 1, d9, i => if 10 ≤ i then (d9) else (L_X3_size_4 p0 n (d9 + ((p0 >>> (i &&& 31)) &&& 1)) (i + 1))
def F_X3_size (p0 : Int32) : Int32 := L_X3_size_4 p0 11 0 0
set_option maxHeartbeats 4000000 in
set_option maxRecDepth 100000 in
theorem c_X3_size (l : Launch) (D : va_G) (cI cZ : ClassId) (p0 : Int32) : CTi l yX3_size wsX3_size ({ frames := 0, cells := 0, slots := 0, locals := 0 } : Room) D cI cZ [.int p0] [] (S := Unit) (fun z9 _ => F_X3_size p0 = z9) (fun _ => []) := by
  refine enterM (cc := cX3_size) (maxL := 3) (ret := (some .int)) (own := RX3) (Qc := fun A => va_Qi (S := Unit) (fun z9 _ => F_X3_size p0 = z9) (PoB (S := Unit) D A (fun _ => [])) A) (by decide) rfl rfl (Nat.le_of_ble_eq_true rfl) ?_
  intro p e s m below meth c A ls C hK hA hP hD hS hl
  have hx := C.1
  have hb := C.2.1
  have hown := C.2.2.2.1
  have hts := C.2.2.2.2.1
  have _huse := hts
  have K4 : ∀ (n : Nat) (k : Nat) (d9 : Int32) (i : Int32) (_ : i.toInt = (k : Int)) (_ : k ≤ 10) (_ : 10 < k + n) (X : Int32) (_ : X = L_X3_size_4 p0 n d9 i) (H : Heap) (locs : List Loc) (_ : va_P D classes [] H) (_ : va_D A []) (_ : va_S A s.heap H locs) (ls : Array Slot) (_ : lv_has ls 3 [(0, .int p0), (1, .int d9), (2, .int i)]), W p l e ({ frames := 0, cells := 0, slots := 0, locals := 0 } : Room) s m [.int p0].toArray below meth c H locs 0 0 (MQ below (va_Qi (S := Unit) (fun z9 _ => X = z9) (PoB (S := Unit) D A (fun _ => [])) A) [.int p0].toArray s 0 0 A) (F0 m 4 ls []) := by
    intro n
    induction n with
    | zero =>
      intro k d9 i hi hk hfu X hX H locs hP hD hS ls hl
      exact absurd hfu (by omega)
    | succ n ih =>
      intro k d9 i hi hk hfu X hX H locs hP hD hS ls hl
      refine lv_iload_n hx hb dX3_size_4 rfl (lv_at hl 2 rfl) ?_
      refine lv_bipush (v := 10) hx hb dX3_size_5 (by decide) ?_
      refine lv_icmp_ge (tgt := 24) hx hb dX3_size_7 (by decide) (fun c_7 => ?_) (fun c_7 => ?_)
      · refine lv_iload_n hx hb dX3_size_24 rfl (lv_at hl 1 rfl) ?_
        exact ret_i C () (hX.trans ((if_pos c_7))) hP hD hS dX3_size_25
      · refine lv_iload_n hx hb dX3_size_10 rfl (lv_at hl 1 rfl) ?_
        refine lv_iload_n hx hb dX3_size_11 rfl (lv_at hl 0 rfl) ?_
        refine lv_iload_n hx hb dX3_size_12 rfl (lv_at hl 2 rfl) ?_
        refine lv_ishr hx hb dX3_size_13 ?_
        refine lv_iconst (v := 1) hx hb dX3_size_14 (by decide) ?_
        refine lv_iand hx hb dX3_size_15 ?_
        refine lv_iadd hx hb dX3_size_16 ?_
        refine lv_istore_n (lv' := [(1, .int (d9 + ((p0 >>> (i &&& 31)) &&& 1))), (0, .int p0), (2, .int i)]) hx hb dX3_size_17 rfl hl (by decide) rfl (fun ls hl => ?_)
        refine lv_iinc (v := i + 1) (lv' := [(2, .int (i + 1)), (1, .int (d9 + ((p0 >>> (i &&& 31)) &&& 1))), (0, .int p0)]) hx hb dX3_size_18 hl (k := 2) rfl rfl (by decide) rfl (fun ls hl => ?_)
        refine lv_goto (tgt := 4) hx hb dX3_size_21 (by decide) ?_
        exact ih (k + 1) (d9 + ((p0 >>> (i &&& 31)) &&& 1)) (i + 1) (i_succ hi (by omega)) (i_lt10 hi c_7) (by omega) X (hX.trans ((if_neg c_7))) _ _ hP hD hS _ (lv_sub hl [2, 1, 0] rfl)
  have hl : lv_has ls 3 [(0, .int p0)] := hl
  refine lv_iconst (v := 0) hx hb dX3_size_0 (by decide) ?_
  refine lv_istore_n (lv' := [(1, .int 0), (0, .int p0)]) hx hb dX3_size_1 rfl hl (by decide) rfl (fun ls hl => ?_)
  refine lv_iconst (v := 0) hx hb dX3_size_2 (by decide) ?_
  refine lv_istore_n (lv' := [(2, .int 0), (1, .int 0), (0, .int p0)]) hx hb dX3_size_3 rfl hl (by decide) rfl (fun ls hl => ?_)
  exact K4 11 0 0 0 rfl (by omega) (by omega) (F_X3_size p0) rfl _ _ hP hD hS _ (lv_sub hl [2, 1, 0] rfl)
def F_X3_power (p0 : Int32) (p1 : Int32) : Int32 := (p0 * p0) + (p1 * p1)
set_option maxHeartbeats 4000000 in
set_option maxRecDepth 100000 in
theorem c_X3_power (l : Launch) (D : va_G) (cI cZ : ClassId) (p0 : Int32) (p1 : Int32) : CTi l yX3_power wsX3_power ({ frames := 0, cells := 0, slots := 0, locals := 0 } : Room) D cI cZ [.int p0, .int p1] [] (S := Unit) (fun z9 _ => F_X3_power p0 p1 = z9) (fun _ => []) := by
  refine enterM (cc := cX3_power) (maxL := 2) (ret := (some .int)) (own := RX3) (Qc := fun A => va_Qi (S := Unit) (fun z9 _ => F_X3_power p0 p1 = z9) (PoB (S := Unit) D A (fun _ => [])) A) (by decide) rfl rfl (Nat.le_of_ble_eq_true rfl) ?_
  intro p e s m below meth c A ls C hK hA hP hD hS hl
  have hx := C.1
  have hb := C.2.1
  have hown := C.2.2.2.1
  have hts := C.2.2.2.2.1
  have _huse := hts
  have hl : lv_has ls 2 [(0, .int p0), (1, .int p1)] := hl
  refine lv_iload_n hx hb dX3_power_0 rfl (lv_at hl 0 rfl) ?_
  refine lv_iload_n hx hb dX3_power_1 rfl (lv_at hl 0 rfl) ?_
  refine lv_imul hx hb dX3_power_2 ?_
  refine lv_iload_n hx hb dX3_power_3 rfl (lv_at hl 1 rfl) ?_
  refine lv_iload_n hx hb dX3_power_4 rfl (lv_at hl 1 rfl) ?_
  refine lv_imul hx hb dX3_power_5 ?_
  refine lv_iadd hx hb dX3_power_6 ?_
  exact ret_i C () rfl hP hD hS dX3_power_7
def F_X3_bit (p0 : Int32) : Int32 := if 0 ≤ p0 then (1 <<< (p0 &&& 31)) else (0)
set_option maxHeartbeats 4000000 in
set_option maxRecDepth 100000 in
theorem c_X3_bit (l : Launch) (D : va_G) (cI cZ : ClassId) (p0 : Int32) : CTi l yX3_bit wsX3_bit ({ frames := 0, cells := 0, slots := 0, locals := 0 } : Room) D cI cZ [.int p0] [] (S := Unit) (fun z9 _ => F_X3_bit p0 = z9) (fun _ => []) := by
  refine enterM (cc := cX3_bit) (maxL := 1) (ret := (some .int)) (own := RX3) (Qc := fun A => va_Qi (S := Unit) (fun z9 _ => F_X3_bit p0 = z9) (PoB (S := Unit) D A (fun _ => [])) A) (by decide) rfl rfl (Nat.le_of_ble_eq_true rfl) ?_
  intro p e s m below meth c A ls C hK hA hP hD hS hl
  have hx := C.1
  have hb := C.2.1
  have hown := C.2.2.2.1
  have hts := C.2.2.2.2.1
  have _huse := hts
  have hl : lv_has ls 1 [(0, .int p0)] := hl
  refine lv_iload_n hx hb dX3_bit_0 rfl (lv_at hl 0 rfl) ?_
  refine lv_if_ge (tgt := 8) hx hb dX3_bit_1 (by decide) (fun c_1 => ?_) (fun c_1 => ?_)
  · refine lv_iconst (v := 1) hx hb dX3_bit_8 (by decide) ?_
    refine lv_iload_n hx hb dX3_bit_9 rfl (lv_at hl 0 rfl) ?_
    refine lv_ishl hx hb dX3_bit_10 ?_
    exact ret_i C () (if_pos c_1) hP hD hS dX3_bit_11
  · refine lv_iconst (v := 0) hx hb dX3_bit_4 (by decide) ?_
    refine lv_goto (tgt := 11) hx hb dX3_bit_5 (by decide) ?_
    exact ret_i C () (if_neg c_1) hP hD hS dX3_bit_11
def F_X3_plain (p0 : Int64) : Int64 := if 0 ≤ (lg_cmp p0 0) then (p0) else (-p0)
set_option maxHeartbeats 4000000 in
set_option maxRecDepth 100000 in
theorem c_X3_plain (l : Launch) (D : va_G) (cI cZ : ClassId) (p0 : Int64) : CTl l yX3_plain wsX3_plain ({ frames := 0, cells := 0, slots := 0, locals := 0 } : Room) D cI cZ [.long p0] [] (S := Unit) (fun z9 _ => F_X3_plain p0 = z9) (fun _ => []) := by
  refine enterM (cc := cX3_plain) (maxL := 2) (ret := (some .long)) (own := RX3) (Qc := fun A => va_Ql (S := Unit) (fun z9 _ => F_X3_plain p0 = z9) (PoB (S := Unit) D A (fun _ => [])) A) (by decide) rfl rfl (Nat.le_of_ble_eq_true rfl) ?_
  intro p e s m below meth c A ls C hK hA hP hD hS hl
  have hx := C.1
  have hb := C.2.1
  have hown := C.2.2.2.1
  have hts := C.2.2.2.2.1
  have _huse := hts
  have hl : lv_has ls 2 [(0, .long p0)] := hl
  refine lv_lload_n hx hb dX3_plain_0 rfl (lv_at hl 0 rfl) ?_
  refine lv_lconst (v := 0) hx hb dX3_plain_1 (by decide) ?_
  refine W.lcmp hx hb dX3_plain_2 ?_
  refine lv_if_ge (tgt := 11) hx hb dX3_plain_3 (by decide) (fun c_3 => ?_) (fun c_3 => ?_)
  · refine lv_lload_n hx hb dX3_plain_11 rfl (lv_at hl 0 rfl) ?_
    exact ret_l C () (if_pos c_3) hP hD hS dX3_plain_12
  · refine lv_lload_n hx hb dX3_plain_6 rfl (lv_at hl 0 rfl) ?_
    refine lv_lneg hx hb dX3_plain_7 ?_
    refine lv_goto (tgt := 12) hx hb dX3_plain_8 (by decide) ?_
    exact ret_l C () (if_neg c_3) hP hD hS dX3_plain_12
def F_X3_det (p0 : Int64) (p1 : Int64) (p2 : Int64) (p3 : Int64) (p4 : Int64) (p5 : Int64) (p6 : Int64) (p7 : Int64) (p8 : Int64) : Int64 := ((p0 * ((p4 * p8) - (p5 * p7))) - (p1 * ((p3 * p8) - (p5 * p6)))) + (p2 * ((p3 * p7) - (p4 * p6)))
set_option maxHeartbeats 4000000 in
set_option maxRecDepth 100000 in
theorem c_X3_det (l : Launch) (D : va_G) (cI cZ : ClassId) (p0 : Int64) (p1 : Int64) (p2 : Int64) (p3 : Int64) (p4 : Int64) (p5 : Int64) (p6 : Int64) (p7 : Int64) (p8 : Int64) : CTl l yX3_det wsX3_det ({ frames := 0, cells := 0, slots := 0, locals := 0 } : Room) D cI cZ [.long p0, .long p1, .long p2, .long p3, .long p4, .long p5, .long p6, .long p7, .long p8] [] (S := Unit) (fun z9 _ => F_X3_det p0 p1 p2 p3 p4 p5 p6 p7 p8 = z9) (fun _ => []) := by
  refine enterM (cc := cX3_det) (maxL := 18) (ret := (some .long)) (own := RX3) (Qc := fun A => va_Ql (S := Unit) (fun z9 _ => F_X3_det p0 p1 p2 p3 p4 p5 p6 p7 p8 = z9) (PoB (S := Unit) D A (fun _ => [])) A) (by decide) rfl rfl (Nat.le_of_ble_eq_true rfl) ?_
  intro p e s m below meth c A ls C hK hA hP hD hS hl
  have hx := C.1
  have hb := C.2.1
  have hown := C.2.2.2.1
  have hts := C.2.2.2.2.1
  have _huse := hts
  have hl : lv_has ls 18 [(0, .long p0), (2, .long p1), (4, .long p2), (6, .long p3), (8, .long p4), (10, .long p5), (12, .long p6), (14, .long p7), (16, .long p8)] := hl
  refine lv_lload_n hx hb dX3_det_0 rfl (lv_at hl 0 rfl) ?_
  refine lv_lload hx hb dX3_det_1 (lv_at hl 4 rfl) ?_
  refine lv_lload hx hb dX3_det_3 (lv_at hl 8 rfl) ?_
  refine lv_lmul hx hb dX3_det_5 ?_
  refine lv_lload hx hb dX3_det_6 (lv_at hl 5 rfl) ?_
  refine lv_lload hx hb dX3_det_8 (lv_at hl 7 rfl) ?_
  refine lv_lmul hx hb dX3_det_10 ?_
  refine lv_lsub hx hb dX3_det_11 ?_
  refine lv_lmul hx hb dX3_det_12 ?_
  refine lv_lload_n hx hb dX3_det_13 rfl (lv_at hl 1 rfl) ?_
  refine lv_lload hx hb dX3_det_14 (lv_at hl 3 rfl) ?_
  refine lv_lload hx hb dX3_det_16 (lv_at hl 8 rfl) ?_
  refine lv_lmul hx hb dX3_det_18 ?_
  refine lv_lload hx hb dX3_det_19 (lv_at hl 5 rfl) ?_
  refine lv_lload hx hb dX3_det_21 (lv_at hl 6 rfl) ?_
  refine lv_lmul hx hb dX3_det_23 ?_
  refine lv_lsub hx hb dX3_det_24 ?_
  refine lv_lmul hx hb dX3_det_25 ?_
  refine lv_lsub hx hb dX3_det_26 ?_
  refine lv_lload hx hb dX3_det_27 (lv_at hl 2 rfl) ?_
  refine lv_lload hx hb dX3_det_29 (lv_at hl 3 rfl) ?_
  refine lv_lload hx hb dX3_det_31 (lv_at hl 7 rfl) ?_
  refine lv_lmul hx hb dX3_det_33 ?_
  refine lv_lload hx hb dX3_det_34 (lv_at hl 4 rfl) ?_
  refine lv_lload hx hb dX3_det_36 (lv_at hl 6 rfl) ?_
  refine lv_lmul hx hb dX3_det_38 ?_
  refine lv_lsub hx hb dX3_det_39 ?_
  refine lv_lmul hx hb dX3_det_40 ?_
  refine lv_ladd hx hb dX3_det_41 ?_
  exact ret_l C () rfl hP hD hS dX3_det_42
def L_X3_eighthOf_106 (p0 : Int64) (p1 : Int64)  : Int32 := if 0 ≤ (lg_cmp p1 0) then ((-6)) else (if (lg_cmp p0 (-p1)) < 0 then ((-6)) else (7))
def L_X3_eighthOf_90 (p0 : Int64) (p1 : Int64)  : Int32 := if (lg_cmp p0 0) < 0 then (L_X3_eighthOf_106 p0 p1) else (if (lg_cmp (-p1) p0) ≤ 0 then (L_X3_eighthOf_106 p0 p1) else (6))
def L_X3_eighthOf_74 (p0 : Int64) (p1 : Int64)  : Int32 := if 0 ≤ (lg_cmp p0 0) then (L_X3_eighthOf_90 p0 p1) else (if (lg_cmp (-p1) (-p0)) < 0 then (L_X3_eighthOf_90 p0 p1) else (5))
def L_X3_eighthOf_58 (p0 : Int64) (p1 : Int64)  : Int32 := if 0 < (lg_cmp p1 0) then (L_X3_eighthOf_74 p0 p1) else (if (lg_cmp (-p0) (-p1)) ≤ 0 then (L_X3_eighthOf_74 p0 p1) else (4))
def L_X3_eighthOf_43 (p0 : Int64) (p1 : Int64)  : Int32 := if (lg_cmp p1 0) ≤ 0 then (L_X3_eighthOf_58 p0 p1) else (if (lg_cmp (-p0) p1) < 0 then (L_X3_eighthOf_58 p0 p1) else (3))
def L_X3_eighthOf_28 (p0 : Int64) (p1 : Int64)  : Int32 := if 0 < (lg_cmp p0 0) then (L_X3_eighthOf_43 p0 p1) else (if (lg_cmp p1 (-p0)) ≤ 0 then (L_X3_eighthOf_43 p0 p1) else (2))
def L_X3_eighthOf_14 (p0 : Int64) (p1 : Int64)  : Int32 := if (lg_cmp p0 0) ≤ 0 then (L_X3_eighthOf_28 p0 p1) else (if (lg_cmp p1 p0) < 0 then (L_X3_eighthOf_28 p0 p1) else (1))
def F_X3_eighthOf (p0 : Int64) (p1 : Int64) : Int32 := if (lg_cmp p1 0) < 0 then (L_X3_eighthOf_14 p0 p1) else (if (lg_cmp p0 p1) ≤ 0 then (L_X3_eighthOf_14 p0 p1) else (0))
set_option maxHeartbeats 4000000 in
set_option maxRecDepth 100000 in
theorem c_X3_eighthOf (l : Launch) (D : va_G) (cI cZ : ClassId) (p0 : Int64) (p1 : Int64) : CTi l yX3_eighthOf wsX3_eighthOf ({ frames := 0, cells := 0, slots := 0, locals := 0 } : Room) D cI cZ [.long p0, .long p1] [] (S := Unit) (fun z9 _ => F_X3_eighthOf p0 p1 = z9) (fun _ => []) := by
  refine enterM (cc := cX3_eighthOf) (maxL := 4) (ret := (some .int)) (own := RX3) (Qc := fun A => va_Qi (S := Unit) (fun z9 _ => F_X3_eighthOf p0 p1 = z9) (PoB (S := Unit) D A (fun _ => [])) A) (by decide) rfl rfl (Nat.le_of_ble_eq_true rfl) ?_
  intro p e s m below meth c A ls C hK hA hP hD hS hl
  have hx := C.1
  have hb := C.2.1
  have hown := C.2.2.2.1
  have hts := C.2.2.2.2.1
  have _huse := hts
  have K106 : ∀ (X : Int32) (_ : X = L_X3_eighthOf_106 p0 p1) (H : Heap) (locs : List Loc) (_ : va_P D classes [] H) (_ : va_D A []) (_ : va_S A s.heap H locs) (ls : Array Slot) (_ : lv_has ls 4 [(0, .long p0), (2, .long p1)]), W p l e ({ frames := 0, cells := 0, slots := 0, locals := 0 } : Room) s m [.long p0, .long p1].toArray below meth c H locs 0 0 (MQ below (va_Qi (S := Unit) (fun z9 _ => X = z9) (PoB (S := Unit) D A (fun _ => [])) A) [.long p0, .long p1].toArray s 0 0 A) (F0 m 106 ls []) := by
    intro X hX H locs hP hD hS ls hl
    refine lv_lload_n hx hb dX3_eighthOf_106 rfl (lv_at hl 1 rfl) ?_
    refine lv_lconst (v := 0) hx hb dX3_eighthOf_107 (by decide) ?_
    refine W.lcmp hx hb dX3_eighthOf_108 ?_
    refine lv_if_ge (tgt := 124) hx hb dX3_eighthOf_109 (by decide) (fun c_109 => ?_) (fun c_109 => ?_)
    · refine lv_bipush (v := (-6)) hx hb dX3_eighthOf_124 (by decide) ?_
      exact ret_i C () (hX.trans ((if_pos c_109))) hP hD hS dX3_eighthOf_126
    · refine lv_lload_n hx hb dX3_eighthOf_112 rfl (lv_at hl 0 rfl) ?_
      refine lv_lload_n hx hb dX3_eighthOf_113 rfl (lv_at hl 1 rfl) ?_
      refine lv_lneg hx hb dX3_eighthOf_114 ?_
      refine W.lcmp hx hb dX3_eighthOf_115 ?_
      refine lv_if_lt (tgt := 124) hx hb dX3_eighthOf_116 (by decide) (fun c_116 => ?_) (fun c_116 => ?_)
      · refine lv_bipush (v := (-6)) hx hb dX3_eighthOf_124 (by decide) ?_
        exact ret_i C () (hX.trans ((if_neg c_109).trans ((if_pos c_116)))) hP hD hS dX3_eighthOf_126
      · refine lv_bipush (v := 7) hx hb dX3_eighthOf_119 (by decide) ?_
        refine lv_goto (tgt := 126) hx hb dX3_eighthOf_121 (by decide) ?_
        exact ret_i C () (hX.trans ((if_neg c_109).trans ((if_neg c_116)))) hP hD hS dX3_eighthOf_126
  have K90 : ∀ (X : Int32) (_ : X = L_X3_eighthOf_90 p0 p1) (H : Heap) (locs : List Loc) (_ : va_P D classes [] H) (_ : va_D A []) (_ : va_S A s.heap H locs) (ls : Array Slot) (_ : lv_has ls 4 [(0, .long p0), (2, .long p1)]), W p l e ({ frames := 0, cells := 0, slots := 0, locals := 0 } : Room) s m [.long p0, .long p1].toArray below meth c H locs 0 0 (MQ below (va_Qi (S := Unit) (fun z9 _ => X = z9) (PoB (S := Unit) D A (fun _ => [])) A) [.long p0, .long p1].toArray s 0 0 A) (F0 m 90 ls []) := by
    intro X hX H locs hP hD hS ls hl
    refine lv_lload_n hx hb dX3_eighthOf_90 rfl (lv_at hl 0 rfl) ?_
    refine lv_lconst (v := 0) hx hb dX3_eighthOf_91 (by decide) ?_
    refine W.lcmp hx hb dX3_eighthOf_92 ?_
    refine lv_if_lt (tgt := 106) hx hb dX3_eighthOf_93 (by decide) (fun c_93 => ?_) (fun c_93 => ?_)
    · exact K106 X (hX.trans ((if_pos c_93))) _ _ hP hD hS _ (lv_sub hl [0, 1] rfl)
    · refine lv_lload_n hx hb dX3_eighthOf_96 rfl (lv_at hl 1 rfl) ?_
      refine lv_lneg hx hb dX3_eighthOf_97 ?_
      refine lv_lload_n hx hb dX3_eighthOf_98 rfl (lv_at hl 0 rfl) ?_
      refine W.lcmp hx hb dX3_eighthOf_99 ?_
      refine lv_if_le (tgt := 106) hx hb dX3_eighthOf_100 (by decide) (fun c_100 => ?_) (fun c_100 => ?_)
      · exact K106 X (hX.trans ((if_neg c_93).trans ((if_pos c_100)))) _ _ hP hD hS _ (lv_sub hl [0, 1] rfl)
      · refine lv_bipush (v := 6) hx hb dX3_eighthOf_103 (by decide) ?_
        exact ret_i C () (hX.trans ((if_neg c_93).trans ((if_neg c_100)))) hP hD hS dX3_eighthOf_105
  have K74 : ∀ (X : Int32) (_ : X = L_X3_eighthOf_74 p0 p1) (H : Heap) (locs : List Loc) (_ : va_P D classes [] H) (_ : va_D A []) (_ : va_S A s.heap H locs) (ls : Array Slot) (_ : lv_has ls 4 [(0, .long p0), (2, .long p1)]), W p l e ({ frames := 0, cells := 0, slots := 0, locals := 0 } : Room) s m [.long p0, .long p1].toArray below meth c H locs 0 0 (MQ below (va_Qi (S := Unit) (fun z9 _ => X = z9) (PoB (S := Unit) D A (fun _ => [])) A) [.long p0, .long p1].toArray s 0 0 A) (F0 m 74 ls []) := by
    intro X hX H locs hP hD hS ls hl
    refine lv_lload_n hx hb dX3_eighthOf_74 rfl (lv_at hl 0 rfl) ?_
    refine lv_lconst (v := 0) hx hb dX3_eighthOf_75 (by decide) ?_
    refine W.lcmp hx hb dX3_eighthOf_76 ?_
    refine lv_if_ge (tgt := 90) hx hb dX3_eighthOf_77 (by decide) (fun c_77 => ?_) (fun c_77 => ?_)
    · exact K90 X (hX.trans ((if_pos c_77))) _ _ hP hD hS _ (lv_sub hl [0, 1] rfl)
    · refine lv_lload_n hx hb dX3_eighthOf_80 rfl (lv_at hl 1 rfl) ?_
      refine lv_lneg hx hb dX3_eighthOf_81 ?_
      refine lv_lload_n hx hb dX3_eighthOf_82 rfl (lv_at hl 0 rfl) ?_
      refine lv_lneg hx hb dX3_eighthOf_83 ?_
      refine W.lcmp hx hb dX3_eighthOf_84 ?_
      refine lv_if_lt (tgt := 90) hx hb dX3_eighthOf_85 (by decide) (fun c_85 => ?_) (fun c_85 => ?_)
      · exact K90 X (hX.trans ((if_neg c_77).trans ((if_pos c_85)))) _ _ hP hD hS _ (lv_sub hl [0, 1] rfl)
      · refine lv_iconst (v := 5) hx hb dX3_eighthOf_88 (by decide) ?_
        exact ret_i C () (hX.trans ((if_neg c_77).trans ((if_neg c_85)))) hP hD hS dX3_eighthOf_89
  have K58 : ∀ (X : Int32) (_ : X = L_X3_eighthOf_58 p0 p1) (H : Heap) (locs : List Loc) (_ : va_P D classes [] H) (_ : va_D A []) (_ : va_S A s.heap H locs) (ls : Array Slot) (_ : lv_has ls 4 [(0, .long p0), (2, .long p1)]), W p l e ({ frames := 0, cells := 0, slots := 0, locals := 0 } : Room) s m [.long p0, .long p1].toArray below meth c H locs 0 0 (MQ below (va_Qi (S := Unit) (fun z9 _ => X = z9) (PoB (S := Unit) D A (fun _ => [])) A) [.long p0, .long p1].toArray s 0 0 A) (F0 m 58 ls []) := by
    intro X hX H locs hP hD hS ls hl
    refine lv_lload_n hx hb dX3_eighthOf_58 rfl (lv_at hl 1 rfl) ?_
    refine lv_lconst (v := 0) hx hb dX3_eighthOf_59 (by decide) ?_
    refine W.lcmp hx hb dX3_eighthOf_60 ?_
    refine lv_if_gt (tgt := 74) hx hb dX3_eighthOf_61 (by decide) (fun c_61 => ?_) (fun c_61 => ?_)
    · exact K74 X (hX.trans ((if_pos c_61))) _ _ hP hD hS _ (lv_sub hl [0, 1] rfl)
    · refine lv_lload_n hx hb dX3_eighthOf_64 rfl (lv_at hl 0 rfl) ?_
      refine lv_lneg hx hb dX3_eighthOf_65 ?_
      refine lv_lload_n hx hb dX3_eighthOf_66 rfl (lv_at hl 1 rfl) ?_
      refine lv_lneg hx hb dX3_eighthOf_67 ?_
      refine W.lcmp hx hb dX3_eighthOf_68 ?_
      refine lv_if_le (tgt := 74) hx hb dX3_eighthOf_69 (by decide) (fun c_69 => ?_) (fun c_69 => ?_)
      · exact K74 X (hX.trans ((if_neg c_61).trans ((if_pos c_69)))) _ _ hP hD hS _ (lv_sub hl [0, 1] rfl)
      · refine lv_iconst (v := 4) hx hb dX3_eighthOf_72 (by decide) ?_
        exact ret_i C () (hX.trans ((if_neg c_61).trans ((if_neg c_69)))) hP hD hS dX3_eighthOf_73
  have K43 : ∀ (X : Int32) (_ : X = L_X3_eighthOf_43 p0 p1) (H : Heap) (locs : List Loc) (_ : va_P D classes [] H) (_ : va_D A []) (_ : va_S A s.heap H locs) (ls : Array Slot) (_ : lv_has ls 4 [(0, .long p0), (2, .long p1)]), W p l e ({ frames := 0, cells := 0, slots := 0, locals := 0 } : Room) s m [.long p0, .long p1].toArray below meth c H locs 0 0 (MQ below (va_Qi (S := Unit) (fun z9 _ => X = z9) (PoB (S := Unit) D A (fun _ => [])) A) [.long p0, .long p1].toArray s 0 0 A) (F0 m 43 ls []) := by
    intro X hX H locs hP hD hS ls hl
    refine lv_lload_n hx hb dX3_eighthOf_43 rfl (lv_at hl 1 rfl) ?_
    refine lv_lconst (v := 0) hx hb dX3_eighthOf_44 (by decide) ?_
    refine W.lcmp hx hb dX3_eighthOf_45 ?_
    refine lv_if_le (tgt := 58) hx hb dX3_eighthOf_46 (by decide) (fun c_46 => ?_) (fun c_46 => ?_)
    · exact K58 X (hX.trans ((if_pos c_46))) _ _ hP hD hS _ (lv_sub hl [0, 1] rfl)
    · refine lv_lload_n hx hb dX3_eighthOf_49 rfl (lv_at hl 0 rfl) ?_
      refine lv_lneg hx hb dX3_eighthOf_50 ?_
      refine lv_lload_n hx hb dX3_eighthOf_51 rfl (lv_at hl 1 rfl) ?_
      refine W.lcmp hx hb dX3_eighthOf_52 ?_
      refine lv_if_lt (tgt := 58) hx hb dX3_eighthOf_53 (by decide) (fun c_53 => ?_) (fun c_53 => ?_)
      · exact K58 X (hX.trans ((if_neg c_46).trans ((if_pos c_53)))) _ _ hP hD hS _ (lv_sub hl [0, 1] rfl)
      · refine lv_iconst (v := 3) hx hb dX3_eighthOf_56 (by decide) ?_
        exact ret_i C () (hX.trans ((if_neg c_46).trans ((if_neg c_53)))) hP hD hS dX3_eighthOf_57
  have K28 : ∀ (X : Int32) (_ : X = L_X3_eighthOf_28 p0 p1) (H : Heap) (locs : List Loc) (_ : va_P D classes [] H) (_ : va_D A []) (_ : va_S A s.heap H locs) (ls : Array Slot) (_ : lv_has ls 4 [(0, .long p0), (2, .long p1)]), W p l e ({ frames := 0, cells := 0, slots := 0, locals := 0 } : Room) s m [.long p0, .long p1].toArray below meth c H locs 0 0 (MQ below (va_Qi (S := Unit) (fun z9 _ => X = z9) (PoB (S := Unit) D A (fun _ => [])) A) [.long p0, .long p1].toArray s 0 0 A) (F0 m 28 ls []) := by
    intro X hX H locs hP hD hS ls hl
    refine lv_lload_n hx hb dX3_eighthOf_28 rfl (lv_at hl 0 rfl) ?_
    refine lv_lconst (v := 0) hx hb dX3_eighthOf_29 (by decide) ?_
    refine W.lcmp hx hb dX3_eighthOf_30 ?_
    refine lv_if_gt (tgt := 43) hx hb dX3_eighthOf_31 (by decide) (fun c_31 => ?_) (fun c_31 => ?_)
    · exact K43 X (hX.trans ((if_pos c_31))) _ _ hP hD hS _ (lv_sub hl [0, 1] rfl)
    · refine lv_lload_n hx hb dX3_eighthOf_34 rfl (lv_at hl 1 rfl) ?_
      refine lv_lload_n hx hb dX3_eighthOf_35 rfl (lv_at hl 0 rfl) ?_
      refine lv_lneg hx hb dX3_eighthOf_36 ?_
      refine W.lcmp hx hb dX3_eighthOf_37 ?_
      refine lv_if_le (tgt := 43) hx hb dX3_eighthOf_38 (by decide) (fun c_38 => ?_) (fun c_38 => ?_)
      · exact K43 X (hX.trans ((if_neg c_31).trans ((if_pos c_38)))) _ _ hP hD hS _ (lv_sub hl [0, 1] rfl)
      · refine lv_iconst (v := 2) hx hb dX3_eighthOf_41 (by decide) ?_
        exact ret_i C () (hX.trans ((if_neg c_31).trans ((if_neg c_38)))) hP hD hS dX3_eighthOf_42
  have K14 : ∀ (X : Int32) (_ : X = L_X3_eighthOf_14 p0 p1) (H : Heap) (locs : List Loc) (_ : va_P D classes [] H) (_ : va_D A []) (_ : va_S A s.heap H locs) (ls : Array Slot) (_ : lv_has ls 4 [(0, .long p0), (2, .long p1)]), W p l e ({ frames := 0, cells := 0, slots := 0, locals := 0 } : Room) s m [.long p0, .long p1].toArray below meth c H locs 0 0 (MQ below (va_Qi (S := Unit) (fun z9 _ => X = z9) (PoB (S := Unit) D A (fun _ => [])) A) [.long p0, .long p1].toArray s 0 0 A) (F0 m 14 ls []) := by
    intro X hX H locs hP hD hS ls hl
    refine lv_lload_n hx hb dX3_eighthOf_14 rfl (lv_at hl 0 rfl) ?_
    refine lv_lconst (v := 0) hx hb dX3_eighthOf_15 (by decide) ?_
    refine W.lcmp hx hb dX3_eighthOf_16 ?_
    refine lv_if_le (tgt := 28) hx hb dX3_eighthOf_17 (by decide) (fun c_17 => ?_) (fun c_17 => ?_)
    · exact K28 X (hX.trans ((if_pos c_17))) _ _ hP hD hS _ (lv_sub hl [0, 1] rfl)
    · refine lv_lload_n hx hb dX3_eighthOf_20 rfl (lv_at hl 1 rfl) ?_
      refine lv_lload_n hx hb dX3_eighthOf_21 rfl (lv_at hl 0 rfl) ?_
      refine W.lcmp hx hb dX3_eighthOf_22 ?_
      refine lv_if_lt (tgt := 28) hx hb dX3_eighthOf_23 (by decide) (fun c_23 => ?_) (fun c_23 => ?_)
      · exact K28 X (hX.trans ((if_neg c_17).trans ((if_pos c_23)))) _ _ hP hD hS _ (lv_sub hl [0, 1] rfl)
      · refine lv_iconst (v := 1) hx hb dX3_eighthOf_26 (by decide) ?_
        exact ret_i C () (hX.trans ((if_neg c_17).trans ((if_neg c_23)))) hP hD hS dX3_eighthOf_27
  have hl : lv_has ls 4 [(0, .long p0), (2, .long p1)] := hl
  refine lv_lload_n hx hb dX3_eighthOf_0 rfl (lv_at hl 1 rfl) ?_
  refine lv_lconst (v := 0) hx hb dX3_eighthOf_1 (by decide) ?_
  refine W.lcmp hx hb dX3_eighthOf_2 ?_
  refine lv_if_lt (tgt := 14) hx hb dX3_eighthOf_3 (by decide) (fun c_3 => ?_) (fun c_3 => ?_)
  · exact K14 (F_X3_eighthOf p0 p1) (if_pos c_3) _ _ hP hD hS _ (lv_sub hl [0, 1] rfl)
  · refine lv_lload_n hx hb dX3_eighthOf_6 rfl (lv_at hl 0 rfl) ?_
    refine lv_lload_n hx hb dX3_eighthOf_7 rfl (lv_at hl 1 rfl) ?_
    refine W.lcmp hx hb dX3_eighthOf_8 ?_
    refine lv_if_le (tgt := 14) hx hb dX3_eighthOf_9 (by decide) (fun c_9 => ?_) (fun c_9 => ?_)
    · exact K14 (F_X3_eighthOf p0 p1) ((if_neg c_3).trans ((if_pos c_9))) _ _ hP hD hS _ (lv_sub hl [0, 1] rfl)
    · refine lv_iconst (v := 0) hx hb dX3_eighthOf_12 (by decide) ?_
      exact ret_i C () ((if_neg c_3).trans ((if_neg c_9))) hP hD hS dX3_eighthOf_13
def L_X3_common_6  : Nat → Int64 → Int64 → Int64
  | 0, _, _ => 0
  | n + 1, a, b => if (lg_cmp b 0) = 0 then (a) else (L_X3_common_6 n b (a - a / b * b))
def F_X3_common (p0 : Int64) (p1 : Int64) : Int64 := L_X3_common_6 (p1.toInt.natAbs + 1) p0 p1
theorem rem_lt {a b : Int64} {n : Nat} (hn : b.toInt.natAbs < n + 1) (c : ¬ lg_cmp b 0 = 0) : (a - a / b * b).toInt.natAbs < n := by
  have hb : ¬ b.toInt = 0 := fun h => lcz c (Int64.toInt_inj.mp (by rw [h]; decide))
  rw [lrem_mod, Int64.toInt_mod, Int.natAbs_tmod]
  have := Nat.mod_lt a.toInt.natAbs (show 0 < b.toInt.natAbs by omega)
  omega
set_option maxHeartbeats 4000000 in
set_option maxRecDepth 100000 in
theorem c_X3_common (l : Launch) (D : va_G) (cI cZ : ClassId) (p0 : Int64) (p1 : Int64) : CTl l yX3_common wsX3_common ({ frames := 0, cells := 0, slots := 0, locals := 0 } : Room) D cI cZ [.long p0, .long p1] [] (S := Unit) (fun z9 _ => F_X3_common p0 p1 = z9) (fun _ => []) := by
  refine enterM (cc := cX3_common) (maxL := 10) (ret := (some .long)) (own := RX3) (Qc := fun A => va_Ql (S := Unit) (fun z9 _ => F_X3_common p0 p1 = z9) (PoB (S := Unit) D A (fun _ => [])) A) (by decide) rfl rfl (Nat.le_of_ble_eq_true rfl) ?_
  intro p e s m below meth c A ls C hK hA hP hD hS hl
  have hx := C.1
  have hb := C.2.1
  have hown := C.2.2.2.1
  have hts := C.2.2.2.2.1
  have _huse := hts
  have K6 : ∀ (n : Nat) (a : Int64) (b : Int64) (_ : b.toInt.natAbs < n) (X : Int64) (_ : X = L_X3_common_6 n a b) (H : Heap) (locs : List Loc) (_ : va_P D classes [] H) (_ : va_D A []) (_ : va_S A s.heap H locs) (ls : Array Slot) (_ : lv_has ls 10 [(0, .long p0), (2, .long p1), (4, .long a), (6, .long b)]), W p l e ({ frames := 0, cells := 0, slots := 0, locals := 0 } : Room) s m [.long p0, .long p1].toArray below meth c H locs 0 0 (MQ below (va_Ql (S := Unit) (fun z9 _ => X = z9) (PoB (S := Unit) D A (fun _ => [])) A) [.long p0, .long p1].toArray s 0 0 A) (F0 m 6 ls []) := by
    intro n
    induction n with
    | zero =>
      intro a b hfu X hX H locs hP hD hS ls hl
      exact absurd hfu (by omega)
    | succ n ih =>
      intro a b hfu X hX H locs hP hD hS ls hl
      refine lv_lload hx hb dX3_common_6 (lv_at hl 3 rfl) ?_
      refine lv_lconst (v := 0) hx hb dX3_common_8 (by decide) ?_
      refine W.lcmp hx hb dX3_common_9 ?_
      refine lv_if_eq (tgt := 31) hx hb dX3_common_10 (by decide) (fun c_10 => ?_) (fun c_10 => ?_)
      · refine lv_lload hx hb dX3_common_31 (lv_at hl 2 rfl) ?_
        exact ret_l C () (hX.trans ((if_pos c_10))) hP hD hS dX3_common_33
      · refine lv_lload hx hb dX3_common_13 (lv_at hl 2 rfl) ?_
        refine lv_lload hx hb dX3_common_15 (lv_at hl 3 rfl) ?_
        refine lv_lrem hx hb dX3_common_17 (lcz c_10) ?_
        refine lv_lstore (lv' := [(8, .long (a - a / b * b)), (0, .long p0), (2, .long p1), (4, .long a), (6, .long b)]) hx hb dX3_common_18 hl (by decide) rfl (fun ls hl => ?_)
        refine lv_lload hx hb dX3_common_20 (lv_at hl 4 rfl) ?_
        refine lv_lstore (lv' := [(4, .long b), (8, .long (a - a / b * b)), (0, .long p0), (2, .long p1), (6, .long b)]) hx hb dX3_common_22 hl (by decide) rfl (fun ls hl => ?_)
        refine lv_lload hx hb dX3_common_24 (lv_at hl 1 rfl) ?_
        refine lv_lstore (lv' := [(6, .long (a - a / b * b)), (4, .long b), (8, .long (a - a / b * b)), (0, .long p0), (2, .long p1)]) hx hb dX3_common_26 hl (by decide) rfl (fun ls hl => ?_)
        refine lv_goto (tgt := 6) hx hb dX3_common_28 (by decide) ?_
        exact ih b (a - a / b * b) (rem_lt hfu c_10) X (hX.trans ((if_neg c_10))) _ _ hP hD hS _ (lv_sub hl [3, 4, 1, 0] rfl)
  have hl : lv_has ls 10 [(0, .long p0), (2, .long p1)] := hl
  refine lv_lload_n hx hb dX3_common_0 rfl (lv_at hl 0 rfl) ?_
  refine lv_lstore (lv' := [(4, .long p0), (0, .long p0), (2, .long p1)]) hx hb dX3_common_1 hl (by decide) rfl (fun ls hl => ?_)
  refine lv_lload_n hx hb dX3_common_3 rfl (lv_at hl 2 rfl) ?_
  refine lv_lstore (lv' := [(6, .long p1), (4, .long p0), (0, .long p0), (2, .long p1)]) hx hb dX3_common_4 hl (by decide) rfl (fun ls hl => ?_)
  exact K6 (p1.toInt.natAbs + 1) p0 p1 (by omega) (F_X3_common p0 p1) rfl _ _ hP hD hS _ (lv_sub hl [2, 3, 1, 0] rfl)
def F_X3_told (p0 : Int64) (p1 : Int64) (p2 : Int32) : Int64 := if p2 = 0 then (p0 / (F_X3_common p1 (F_X3_plain p0))) else (p1 / (F_X3_common p1 (F_X3_plain p0)))
theorem common_ne_L : ∀ (n : Nat) (a b : Int64), b.toInt.natAbs < n → ¬ a = 0 → ¬ L_X3_common_6 n a b = 0 := by
  intro n
  induction n with
  | zero => intro a b h; omega
  | succ n ih =>
    intro a b hn ha
    show ¬ (if lg_cmp b 0 = 0 then a else L_X3_common_6 n b (a - a / b * b)) = 0
    by_cases c : lg_cmp b 0 = 0
    · rw [if_pos c]; exact ha
    · rw [if_neg c]; exact ih _ _ (rem_lt hn c) (lcz c)
theorem common_ne {a b : Int64} (h : ¬ a = 0) : ¬ F_X3_common a b = 0 := common_ne_L _ _ _ (Nat.lt_succ_self _) h
set_option maxHeartbeats 4000000 in
set_option maxRecDepth 100000 in
theorem c_X3_told (l : Launch) (D : va_G) (cI cZ : ClassId) (p0 : Int64) (p1 : Int64) (p2 : Int32) (hlow : ¬ p1 = 0) : CTl l yX3_told wsX3_told ({ frames := 1, cells := 0, slots := 0, locals := 29 } : Room) D cI cZ [.long p0, .long p1, .int p2] [] (S := Unit) (fun z9 _ => F_X3_told p0 p1 p2 = z9) (fun _ => []) := by
  refine enterM (cc := cX3_told) (maxL := 7) (ret := (some .long)) (own := RX3) (Qc := fun A => va_Ql (S := Unit) (fun z9 _ => F_X3_told p0 p1 p2 = z9) (PoB (S := Unit) D A (fun _ => [])) A) (by decide) rfl rfl (Nat.le_of_ble_eq_true rfl) ?_
  intro p e s m below meth c A ls C hK hA hP hD hS hl
  have hx := C.1
  have hb := C.2.1
  have hown := C.2.2.2.1
  have hts := C.2.2.2.2.1
  have _huse := hts
  have hl : lv_has ls 7 [(0, .long p0), (2, .long p1), (4, .int p2)] := hl
  refine lv_lload_n hx hb dX3_told_0 rfl (lv_at hl 1 rfl) ?_
  refine lv_lload_n hx hb dX3_told_1 rfl (lv_at hl 0 rfl) ?_
  refine aft_l (wr := []) (run_S (As := [.long p0]) (rest := [.long p1]) C (c_X3_plain l D cI cZ p0) (va_cwS 1 hts gX3_told_X3_plain rfl rfl rfl (by decide +kernel) ⟨Nat.le_of_ble_eq_true rfl, Nat.le_of_ble_eq_true rfl⟩) hK (hP.sub (ws' := []) [] rfl) (hD.sub (ws' := []) [] (by decide) rfl) rfl hl.1 rfl (Nat.le_of_ble_eq_true rfl) dX3_told_2 (Nat.zero_le _) (Nat.zero_le _)) hP hD hS hA [] [] rfl rfl (by decide) (by decide) (fun z9 u9 H locs hw hP hD hS => ?_)
  subst hw
  have hP : va_P D classes [] H := hP
  have hD : va_D A [] := hD
  refine aft_l (wr := []) (run_S (As := [.long p1, .long (F_X3_plain p0)]) (rest := []) C (c_X3_common l D cI cZ p1 (F_X3_plain p0)) (va_cwS 2 hts gX3_told_X3_common rfl rfl rfl (by decide +kernel) ⟨Nat.le_of_ble_eq_true rfl, Nat.le_of_ble_eq_true rfl⟩) hK (hP.sub (ws' := []) [] rfl) (hD.sub (ws' := []) [] (by decide) rfl) rfl hl.1 rfl (Nat.le_of_ble_eq_true rfl) dX3_told_5 (Nat.zero_le _) (Nat.zero_le _)) hP hD hS hA [] [] rfl rfl (by decide) (by decide) (fun z9 u9 H locs hw hP hD hS => ?_)
  subst hw
  have hP : va_P D classes [] H := hP
  have hD : va_D A [] := hD
  refine lv_lstore (lv' := [(5, .long (F_X3_common p1 (F_X3_plain p0))), (0, .long p0), (2, .long p1), (4, .int p2)]) hx hb dX3_told_8 hl (by decide) rfl (fun ls hl => ?_)
  refine lv_iload hx hb dX3_told_10 (lv_at hl 3 rfl) ?_
  refine lv_if_ne (tgt := 22) hx hb dX3_told_12 (by decide) (fun c_12 => ?_) (fun c_12 => ?_)
  · refine lv_lload_n hx hb dX3_told_22 rfl (lv_at hl 2 rfl) ?_
    refine lv_lload hx hb dX3_told_23 (lv_at hl 0 rfl) ?_
    refine lv_ldiv hx hb dX3_told_25 (common_ne hlow) ?_
    exact ret_l C () (if_neg c_12) hP hD hS dX3_told_26
  · refine lv_lload_n hx hb dX3_told_15 rfl (lv_at hl 1 rfl) ?_
    refine lv_lload hx hb dX3_told_16 (lv_at hl 0 rfl) ?_
    refine lv_ldiv hx hb dX3_told_18 (common_ne hlow) ?_
    refine lv_goto (tgt := 26) hx hb dX3_told_19 (by decide) ?_
    exact ret_l C () (if_pos c_12) hP hD hS dX3_told_26
def F_X3_isSample (st : Nat → Int32) (p0 : Int32) : Int32 := F_X3_in p0.toInt64 0 (((st 20) - 1).toInt64)
theorem in01 (a b c : Int64) : F_X3_in a b c = 0 ∨ F_X3_in a b c = 1 := by
  unfold F_X3_in
  split
  · exact Or.inl rfl
  · split
    · exact Or.inl rfl
    · exact Or.inr rfl
theorem in_ne {a b c : Int64} (h : ¬ F_X3_in a b c = 0) : b.toInt ≤ a.toInt ∧ a.toInt ≤ c.toInt := by
  unfold F_X3_in at h
  by_cases h1 : lg_cmp a b < 0
  · rw [if_pos h1] at h; exact absurd rfl h
  · rw [if_neg h1] at h
    by_cases h2 : 0 < lg_cmp a c
    · rw [if_pos h2] at h; exact absurd rfl h
    · have h3 := (lg_cmp_ge a b).mp (Int32.not_lt.mp h1)
      have h4 := (lg_cmp_le a c).mp (Int32.not_lt.mp h2)
      rw [Int64.le_iff_toInt_le] at h3 h4
      exact ⟨h3, h4⟩
theorem iX3_isSample_X3 : ∀ w ∈ u_ws RX3 TX3 16, w ∈ wsX3_isSample := fun _ h => List.mem_cons_of_mem _ (List.mem_append_right _ (h))
set_option maxHeartbeats 4000000 in
set_option maxRecDepth 100000 in
theorem c_X3_isSample (l : Launch) (D : va_G) (cI cZ : ClassId) (h0 ast aim akt : Nat) (st : Nat → Int32) (md : Rd) (p0 : Int32) : CTi l yX3_isSample wsX3_isSample ({ frames := 1, cells := 0, slots := 0, locals := 25 } : Room) D cI cZ [.ref h0, .int p0] [(h0, .inr (3, mdv ast aim akt md)), (ast, .inl (cI, 23, .inl st))] (S := Unit) (fun z9 _ => F_X3_isSample st p0 = z9) (fun _ => [(h0, .inr (3, mdv ast aim akt md)), (ast, .inl (cI, 23, .inl st))]) := by
  refine enterM (cc := cX3_isSample) (maxL := 2) (ret := (some .boolean)) (own := RX3) (Qc := fun A => va_Qi (S := Unit) (fun z9 _ => F_X3_isSample st p0 = z9) (PoB (S := Unit) D A (fun _ => [(h0, .inr (3, mdv ast aim akt md)), (ast, .inl (cI, 23, .inl st))])) A) (by decide) rfl rfl (Nat.le_of_ble_eq_true rfl) ?_
  intro p e s m below meth c A ls C hK hA hP hD hS hl
  have hx := C.1
  have hb := C.2.1
  have hown := C.2.2.2.1
  have hts := C.2.2.2.2.1
  have _huse := hts
  have hl : lv_has ls 2 [(0, .ref h0), (1, .int p0)] := hl
  refine lv_iload_n hx hb dX3_isSample_0 rfl (lv_at hl 1 rfl) ?_
  refine lv_i2l (v := p0.toInt64) hx hb dX3_isSample_1 rfl ?_
  refine lv_lconst (v := 0) hx hb dX3_isSample_2 (by decide) ?_
  refine lv_aload_n hx hb dX3_isSample_3 rfl (lv_at hl 0 rfl) ?_
  refine va_get (D := D) (ci := 3) (v := .ref ast) (C := RX3) (T := TX3) (N := 16) hx hb hts iX3_isSample_X3 hown hK.1 hP 0 rfl rfl 0 (by decide) (hts (.fieldLink RX3 7 "CompassBiasModel" "state" "[I") (List.mem_of_getElem? (i := 1) rfl)) (fun _ h9 => h9) rfl dX3_isSample_4 ?_
  refine lv_bipush (v := 20) hx hb dX3_isSample_7 (by decide) ?_
  refine va_iald hx hb hK.1 hP 1 0 rfl rfl (vp_lit (by decide)) dX3_isSample_9 ?_
  refine W.eq (g2 := F0 m 10 ls [.int (st 20), .long 0, .long p0.toInt64]) rfl ?_
  refine lv_iconst (v := 1) hx hb dX3_isSample_10 (by decide) ?_
  refine lv_isub hx hb dX3_isSample_11 ?_
  refine lv_i2l (v := ((st 20) - 1).toInt64) hx hb dX3_isSample_12 rfl ?_
  refine aft_i (wr := [(h0, .inr (3, mdv ast aim akt md)), (ast, .inl (cI, 23, .inl st))]) (run_S (As := [.long p0.toInt64, .long 0, .long (((st 20) - 1).toInt64)]) (rest := []) C (c_X3_in l D cI cZ p0.toInt64 0 (((st 20) - 1).toInt64)) (va_cwS 3 hts gX3_isSample_X3_in rfl rfl rfl (by decide +kernel) ⟨Nat.le_of_ble_eq_true rfl, Nat.le_of_ble_eq_true rfl⟩) hK (hP.sub (ws' := []) [] rfl) (hD.sub (ws' := []) [] (by decide) rfl) rfl hl.1 rfl (Nat.le_of_ble_eq_true rfl) dX3_isSample_13 (Nat.zero_le _) (Nat.zero_le _)) hP hD hS hA [] [0, 1] rfl rfl (by decide) (by decide) (fun z9 u9 H locs hw hP hD hS => ?_)
  subst hw
  have hP : va_P D classes [(h0, .inr (3, mdv ast aim akt md)), (ast, .inl (cI, 23, .inl st))] H := hP
  have hD : va_D A [(h0, .inr (3, mdv ast aim akt md)), (ast, .inl (cI, 23, .inl st))] := hD
  exact ret_z C (in01 _ _ _) () rfl hP hD hS dX3_isSample_16
def F_X3_add (st : Nat → Int32) (p0 : Int32) (p1 : Int32) : Int32 × (Nat → Int32) := if (F_X3_isHere p0 p1) = 0 then (((-2), st)) else (if (st 20) = 10 then (((-4), st)) else ((st 20, upd (upd (upd (upd st (0 + (st 20)).toNatClampNeg p0) (10 + (st 20)).toNatClampNeg p1) 21 (((upd (upd st (0 + (st 20)).toNatClampNeg p0) (10 + (st 20)).toNatClampNeg p1) 21) ||| (1 <<< ((st 20) &&& 31)))) 20 (((upd (upd (upd st (0 + (st 20)).toNatClampNeg p0) (10 + (st 20)).toNatClampNeg p1) 21 (((upd (upd st (0 + (st 20)).toNatClampNeg p0) (10 + (st 20)).toNatClampNeg p1) 21) ||| (1 <<< ((st 20) &&& 31)))) 20) + 1))))
theorem iX3_add_X3 : ∀ w ∈ u_ws RX3 TX3 16, w ∈ wsX3_add := fun _ h => List.mem_cons_of_mem _ (List.mem_append_right _ (h))
set_option maxHeartbeats 4000000 in
set_option maxRecDepth 100000 in
theorem c_X3_add (l : Launch) (D : va_G) (cI cZ : ClassId) (h0 ast aim akt : Nat) (st : Nat → Int32) (md : Rd) (p0 : Int32) (p1 : Int32) (hm : MB st) : CTi l yX3_add wsX3_add ({ frames := 2, cells := 0, slots := 0, locals := 46 } : Room) D cI cZ [.ref h0, .int p0, .int p1] [(h0, .inr (3, mdv ast aim akt md)), (ast, .inl (cI, 23, .inl st))] (S := (Nat → Int32)) (fun z9 u9 => F_X3_add st p0 p1 = (z9, u9)) (fun u => [(h0, .inr (3, mdv ast aim akt md)), (ast, .inl (cI, 23, .inl u))]) := by
  refine enterM (cc := cX3_add) (maxL := 4) (ret := (some .int)) (own := RX3) (Qc := fun A => va_Qi (S := (Nat → Int32)) (fun z9 u9 => F_X3_add st p0 p1 = (z9, u9)) (PoB (S := (Nat → Int32)) D A (fun u => [(h0, .inr (3, mdv ast aim akt md)), (ast, .inl (cI, 23, .inl u))])) A) (by decide) rfl rfl (Nat.le_of_ble_eq_true rfl) ?_
  intro p e s m below meth c A ls C hK hA hP hD hS hl
  have hx := C.1
  have hb := C.2.1
  have hown := C.2.2.2.1
  have hts := C.2.2.2.2.1
  have _huse := hts
  have hl : lv_has ls 4 [(0, .ref h0), (1, .int p0), (2, .int p1)] := hl
  refine lv_iload_n hx hb dX3_add_0 rfl (lv_at hl 1 rfl) ?_
  refine lv_iload_n hx hb dX3_add_1 rfl (lv_at hl 2 rfl) ?_
  refine aft_i (wr := [(h0, .inr (3, mdv ast aim akt md)), (ast, .inl (cI, 23, .inl st))]) (run_S (As := [.int p0, .int p1]) (rest := []) C (c_X3_isHere l D cI cZ p0 p1) (va_cwS 2 hts gX3_add_X3_isHere rfl rfl rfl (by decide +kernel) ⟨Nat.le_of_ble_eq_true rfl, Nat.le_of_ble_eq_true rfl⟩) hK (hP.sub (ws' := []) [] rfl) (hD.sub (ws' := []) [] (by decide) rfl) rfl hl.1 rfl (Nat.le_of_ble_eq_true rfl) dX3_add_2 (Nat.zero_le _) (Nat.zero_le _)) hP hD hS hA [] [0, 1] rfl rfl (by decide) (by decide) (fun z9 u9 H locs hw hP hD hS => ?_)
  subst hw
  have hP : va_P D classes [(h0, .inr (3, mdv ast aim akt md)), (ast, .inl (cI, 23, .inl st))] H := hP
  have hD : va_D A [(h0, .inr (3, mdv ast aim akt md)), (ast, .inl (cI, 23, .inl st))] := hD
  refine lv_if_ne (tgt := 11) hx hb dX3_add_5 (by decide) (fun c_5 => ?_) (fun c_5 => ?_)
  · refine lv_aload_n hx hb dX3_add_11 rfl (lv_at hl 0 rfl) ?_
    refine va_get (D := D) (ci := 3) (v := .ref ast) (C := RX3) (T := TX3) (N := 16) hx hb hts iX3_add_X3 hown hK.1 hP 0 rfl rfl 0 (by decide) (hts (.fieldLink RX3 7 "CompassBiasModel" "state" "[I") (List.mem_of_getElem? (i := 1) rfl)) (fun _ h9 => h9) rfl dX3_add_12 ?_
    refine lv_bipush (v := 20) hx hb dX3_add_15 (by decide) ?_
    refine va_iald hx hb hK.1 hP 1 0 rfl rfl (vp_lit (by decide)) dX3_add_17 ?_
    refine W.eq (g2 := F0 m 18 ls [.int (st 20)]) rfl ?_
    refine lv_istore_n (lv' := [(3, .int (st 20)), (0, .ref h0), (1, .int p0), (2, .int p1)]) hx hb dX3_add_18 rfl hl (by decide) rfl (fun ls hl => ?_)
    refine lv_iload_n hx hb dX3_add_19 rfl (lv_at hl 0 rfl) ?_
    refine lv_bipush (v := 10) hx hb dX3_add_20 (by decide) ?_
    refine lv_icmp_ne (tgt := 28) hx hb dX3_add_22 (by decide) (fun c_22 => ?_) (fun c_22 => ?_)
    · refine lv_aload_n hx hb dX3_add_28 rfl (lv_at hl 1 rfl) ?_
      refine va_get (D := D) (ci := 3) (v := .ref ast) (C := RX3) (T := TX3) (N := 16) hx hb hts iX3_add_X3 hown hK.1 hP 0 rfl rfl 0 (by decide) (hts (.fieldLink RX3 7 "CompassBiasModel" "state" "[I") (List.mem_of_getElem? (i := 1) rfl)) (fun _ h9 => h9) rfl dX3_add_29 ?_
      refine lv_iconst (v := 0) hx hb dX3_add_32 (by decide) ?_
      refine lv_iload_n hx hb dX3_add_33 rfl (lv_at hl 0 rfl) ?_
      refine lv_iadd hx hb dX3_add_34 ?_
      refine lv_iload_n hx hb dX3_add_35 rfl (lv_at hl 2 rfl) ?_
      refine va_iast hx hb hK.1 hP hD hS 1 0 rfl rfl (vp_x9 hm c_22) dX3_add_36 (fun H locs hP hD hS => ?_)
      have hP : va_P D classes [(h0, .inr (3, mdv ast aim akt md)), (ast, .inl (cI, 23, .inl (upd st (0 + (st 20)).toNatClampNeg p0)))] H := hP
      have hD : va_D A [(h0, .inr (3, mdv ast aim akt md)), (ast, .inl (cI, 23, .inl (upd st (0 + (st 20)).toNatClampNeg p0)))] := hD
      refine lv_aload_n hx hb dX3_add_37 rfl (lv_at hl 1 rfl) ?_
      refine va_get (D := D) (ci := 3) (v := .ref ast) (C := RX3) (T := TX3) (N := 16) hx hb hts iX3_add_X3 hown hK.1 hP 0 rfl rfl 0 (by decide) (hts (.fieldLink RX3 7 "CompassBiasModel" "state" "[I") (List.mem_of_getElem? (i := 1) rfl)) (fun _ h9 => h9) rfl dX3_add_38 ?_
      refine lv_bipush (v := 10) hx hb dX3_add_41 (by decide) ?_
      refine lv_iload_n hx hb dX3_add_43 rfl (lv_at hl 0 rfl) ?_
      refine lv_iadd hx hb dX3_add_44 ?_
      refine lv_iload_n hx hb dX3_add_45 rfl (lv_at hl 3 rfl) ?_
      refine va_iast hx hb hK.1 hP hD hS 1 0 rfl rfl (vp_y9 hm c_22) dX3_add_46 (fun H locs hP hD hS => ?_)
      have hP : va_P D classes [(h0, .inr (3, mdv ast aim akt md)), (ast, .inl (cI, 23, .inl (upd (upd st (0 + (st 20)).toNatClampNeg p0) (10 + (st 20)).toNatClampNeg p1)))] H := hP
      have hD : va_D A [(h0, .inr (3, mdv ast aim akt md)), (ast, .inl (cI, 23, .inl (upd (upd st (0 + (st 20)).toNatClampNeg p0) (10 + (st 20)).toNatClampNeg p1)))] := hD
      refine lv_aload_n hx hb dX3_add_47 rfl (lv_at hl 1 rfl) ?_
      refine va_get (D := D) (ci := 3) (v := .ref ast) (C := RX3) (T := TX3) (N := 16) hx hb hts iX3_add_X3 hown hK.1 hP 0 rfl rfl 0 (by decide) (hts (.fieldLink RX3 7 "CompassBiasModel" "state" "[I") (List.mem_of_getElem? (i := 1) rfl)) (fun _ h9 => h9) rfl dX3_add_48 ?_
      refine lv_bipush (v := 21) hx hb dX3_add_51 (by decide) ?_
      refine lv_dup2_11 hx hb dX3_add_53 rfl rfl ?_
      refine va_iald hx hb hK.1 hP 1 0 rfl rfl (vp_lit (by decide)) dX3_add_54 ?_
      refine W.eq (g2 := F0 m 55 ls [.int ((upd (upd st (0 + (st 20)).toNatClampNeg p0) (10 + (st 20)).toNatClampNeg p1) 21), .int 21, .ref ast]) rfl ?_
      refine lv_iconst (v := 1) hx hb dX3_add_55 (by decide) ?_
      refine lv_iload_n hx hb dX3_add_56 rfl (lv_at hl 0 rfl) ?_
      refine lv_ishl hx hb dX3_add_57 ?_
      refine lv_ior hx hb dX3_add_58 ?_
      refine va_iast hx hb hK.1 hP hD hS 1 0 rfl rfl (vp_lit (by decide)) dX3_add_59 (fun H locs hP hD hS => ?_)
      have hP : va_P D classes [(h0, .inr (3, mdv ast aim akt md)), (ast, .inl (cI, 23, .inl (upd (upd (upd st (0 + (st 20)).toNatClampNeg p0) (10 + (st 20)).toNatClampNeg p1) 21 (((upd (upd st (0 + (st 20)).toNatClampNeg p0) (10 + (st 20)).toNatClampNeg p1) 21) ||| (1 <<< ((st 20) &&& 31))))))] H := hP
      have hD : va_D A [(h0, .inr (3, mdv ast aim akt md)), (ast, .inl (cI, 23, .inl (upd (upd (upd st (0 + (st 20)).toNatClampNeg p0) (10 + (st 20)).toNatClampNeg p1) 21 (((upd (upd st (0 + (st 20)).toNatClampNeg p0) (10 + (st 20)).toNatClampNeg p1) 21) ||| (1 <<< ((st 20) &&& 31))))))] := hD
      refine lv_aload_n hx hb dX3_add_60 rfl (lv_at hl 1 rfl) ?_
      refine va_get (D := D) (ci := 3) (v := .ref ast) (C := RX3) (T := TX3) (N := 16) hx hb hts iX3_add_X3 hown hK.1 hP 0 rfl rfl 0 (by decide) (hts (.fieldLink RX3 7 "CompassBiasModel" "state" "[I") (List.mem_of_getElem? (i := 1) rfl)) (fun _ h9 => h9) rfl dX3_add_61 ?_
      refine lv_bipush (v := 20) hx hb dX3_add_64 (by decide) ?_
      refine lv_dup2_11 hx hb dX3_add_66 rfl rfl ?_
      refine va_iald hx hb hK.1 hP 1 0 rfl rfl (vp_lit (by decide)) dX3_add_67 ?_
      refine W.eq (g2 := F0 m 68 ls [.int ((upd (upd (upd st (0 + (st 20)).toNatClampNeg p0) (10 + (st 20)).toNatClampNeg p1) 21 (((upd (upd st (0 + (st 20)).toNatClampNeg p0) (10 + (st 20)).toNatClampNeg p1) 21) ||| (1 <<< ((st 20) &&& 31)))) 20), .int 20, .ref ast]) rfl ?_
      refine lv_iconst (v := 1) hx hb dX3_add_68 (by decide) ?_
      refine lv_iadd hx hb dX3_add_69 ?_
      refine va_iast hx hb hK.1 hP hD hS 1 0 rfl rfl (vp_lit (by decide)) dX3_add_70 (fun H locs hP hD hS => ?_)
      have hP : va_P D classes [(h0, .inr (3, mdv ast aim akt md)), (ast, .inl (cI, 23, .inl (upd (upd (upd (upd st (0 + (st 20)).toNatClampNeg p0) (10 + (st 20)).toNatClampNeg p1) 21 (((upd (upd st (0 + (st 20)).toNatClampNeg p0) (10 + (st 20)).toNatClampNeg p1) 21) ||| (1 <<< ((st 20) &&& 31)))) 20 (((upd (upd (upd st (0 + (st 20)).toNatClampNeg p0) (10 + (st 20)).toNatClampNeg p1) 21 (((upd (upd st (0 + (st 20)).toNatClampNeg p0) (10 + (st 20)).toNatClampNeg p1) 21) ||| (1 <<< ((st 20) &&& 31)))) 20) + 1))))] H := hP
      have hD : va_D A [(h0, .inr (3, mdv ast aim akt md)), (ast, .inl (cI, 23, .inl (upd (upd (upd (upd st (0 + (st 20)).toNatClampNeg p0) (10 + (st 20)).toNatClampNeg p1) 21 (((upd (upd st (0 + (st 20)).toNatClampNeg p0) (10 + (st 20)).toNatClampNeg p1) 21) ||| (1 <<< ((st 20) &&& 31)))) 20 (((upd (upd (upd st (0 + (st 20)).toNatClampNeg p0) (10 + (st 20)).toNatClampNeg p1) 21 (((upd (upd st (0 + (st 20)).toNatClampNeg p0) (10 + (st 20)).toNatClampNeg p1) 21) ||| (1 <<< ((st 20) &&& 31)))) 20) + 1))))] := hD
      refine lv_iload_n hx hb dX3_add_71 rfl (lv_at hl 0 rfl) ?_
      exact ret_i C (upd (upd (upd (upd st (0 + (st 20)).toNatClampNeg p0) (10 + (st 20)).toNatClampNeg p1) 21 (((upd (upd st (0 + (st 20)).toNatClampNeg p0) (10 + (st 20)).toNatClampNeg p1) 21) ||| (1 <<< ((st 20) &&& 31)))) 20 (((upd (upd (upd st (0 + (st 20)).toNatClampNeg p0) (10 + (st 20)).toNatClampNeg p1) 21 (((upd (upd st (0 + (st 20)).toNatClampNeg p0) (10 + (st 20)).toNatClampNeg p1) 21) ||| (1 <<< ((st 20) &&& 31)))) 20) + 1)) ((if_neg c_5).trans ((if_neg c_22))) hP hD hS dX3_add_72
    · refine lv_bipush (v := (-4)) hx hb dX3_add_25 (by decide) ?_
      exact ret_i C st ((if_neg c_5).trans ((if_pos c_22))) hP hD hS dX3_add_27
  · refine lv_bipush (v := (-2)) hx hb dX3_add_8 (by decide) ?_
    exact ret_i C st (if_pos c_5) hP hD hS dX3_add_10
def F_X3_clear (st : Nat → Int32) : Int32 × (Nat → Int32) := (st 20, upd (upd st 20 0) 21 0)
theorem iX3_clear_X3 : ∀ w ∈ u_ws RX3 TX3 16, w ∈ wsX3_clear := fun _ h => List.mem_cons_of_mem _ (List.mem_append_right _ (h))
set_option maxHeartbeats 4000000 in
set_option maxRecDepth 100000 in
theorem c_X3_clear (l : Launch) (D : va_G) (cI cZ : ClassId) (h0 ast aim akt : Nat) (st : Nat → Int32) (md : Rd) : CTi l yX3_clear wsX3_clear ({ frames := 0, cells := 0, slots := 0, locals := 0 } : Room) D cI cZ [.ref h0] [(h0, .inr (3, mdv ast aim akt md)), (ast, .inl (cI, 23, .inl st))] (S := (Nat → Int32)) (fun z9 u9 => F_X3_clear st = (z9, u9)) (fun u => [(h0, .inr (3, mdv ast aim akt md)), (ast, .inl (cI, 23, .inl u))]) := by
  refine enterM (cc := cX3_clear) (maxL := 2) (ret := (some .int)) (own := RX3) (Qc := fun A => va_Qi (S := (Nat → Int32)) (fun z9 u9 => F_X3_clear st = (z9, u9)) (PoB (S := (Nat → Int32)) D A (fun u => [(h0, .inr (3, mdv ast aim akt md)), (ast, .inl (cI, 23, .inl u))])) A) (by decide) rfl rfl (Nat.le_of_ble_eq_true rfl) ?_
  intro p e s m below meth c A ls C hK hA hP hD hS hl
  have hx := C.1
  have hb := C.2.1
  have hown := C.2.2.2.1
  have hts := C.2.2.2.2.1
  have _huse := hts
  have hl : lv_has ls 2 [(0, .ref h0)] := hl
  refine lv_aload_n hx hb dX3_clear_0 rfl (lv_at hl 0 rfl) ?_
  refine va_get (D := D) (ci := 3) (v := .ref ast) (C := RX3) (T := TX3) (N := 16) hx hb hts iX3_clear_X3 hown hK.1 hP 0 rfl rfl 0 (by decide) (hts (.fieldLink RX3 7 "CompassBiasModel" "state" "[I") (List.mem_of_getElem? (i := 1) rfl)) (fun _ h9 => h9) rfl dX3_clear_1 ?_
  refine lv_bipush (v := 20) hx hb dX3_clear_4 (by decide) ?_
  refine va_iald hx hb hK.1 hP 1 0 rfl rfl (vp_lit (by decide)) dX3_clear_6 ?_
  refine W.eq (g2 := F0 m 7 ls [.int (st 20)]) rfl ?_
  refine lv_istore_n (lv' := [(1, .int (st 20)), (0, .ref h0)]) hx hb dX3_clear_7 rfl hl (by decide) rfl (fun ls hl => ?_)
  refine lv_aload_n hx hb dX3_clear_8 rfl (lv_at hl 1 rfl) ?_
  refine va_get (D := D) (ci := 3) (v := .ref ast) (C := RX3) (T := TX3) (N := 16) hx hb hts iX3_clear_X3 hown hK.1 hP 0 rfl rfl 0 (by decide) (hts (.fieldLink RX3 7 "CompassBiasModel" "state" "[I") (List.mem_of_getElem? (i := 1) rfl)) (fun _ h9 => h9) rfl dX3_clear_9 ?_
  refine lv_bipush (v := 20) hx hb dX3_clear_12 (by decide) ?_
  refine lv_iconst (v := 0) hx hb dX3_clear_14 (by decide) ?_
  refine va_iast hx hb hK.1 hP hD hS 1 0 rfl rfl (vp_lit (by decide)) dX3_clear_15 (fun H locs hP hD hS => ?_)
  have hP : va_P D classes [(h0, .inr (3, mdv ast aim akt md)), (ast, .inl (cI, 23, .inl (upd st 20 0)))] H := hP
  have hD : va_D A [(h0, .inr (3, mdv ast aim akt md)), (ast, .inl (cI, 23, .inl (upd st 20 0)))] := hD
  refine lv_aload_n hx hb dX3_clear_16 rfl (lv_at hl 1 rfl) ?_
  refine va_get (D := D) (ci := 3) (v := .ref ast) (C := RX3) (T := TX3) (N := 16) hx hb hts iX3_clear_X3 hown hK.1 hP 0 rfl rfl 0 (by decide) (hts (.fieldLink RX3 7 "CompassBiasModel" "state" "[I") (List.mem_of_getElem? (i := 1) rfl)) (fun _ h9 => h9) rfl dX3_clear_17 ?_
  refine lv_bipush (v := 21) hx hb dX3_clear_20 (by decide) ?_
  refine lv_iconst (v := 0) hx hb dX3_clear_22 (by decide) ?_
  refine va_iast hx hb hK.1 hP hD hS 1 0 rfl rfl (vp_lit (by decide)) dX3_clear_23 (fun H locs hP hD hS => ?_)
  have hP : va_P D classes [(h0, .inr (3, mdv ast aim akt md)), (ast, .inl (cI, 23, .inl (upd (upd st 20 0) 21 0)))] H := hP
  have hD : va_D A [(h0, .inr (3, mdv ast aim akt md)), (ast, .inl (cI, 23, .inl (upd (upd st 20 0) 21 0)))] := hD
  refine lv_iload_n hx hb dX3_clear_24 rfl (lv_at hl 0 rfl) ?_
  exact ret_i C (upd (upd st 20 0) 21 0) rfl hP hD hS dX3_clear_25
def F_X3_take (st : Nat → Int32) (p0 : Int32) (p1 : Int32) : Int32 × (Nat → Int32) := if (F_X3_isSample st p0) = 0 then (((-1), st)) else (if (F_X3_in p1.toInt64 0 1) = 0 then (((-2), st)) else ((F_X3_size ((upd st 21 (((st 21) &&& ((1 <<< (p0 &&& 31)) ^^^ (-1))) ||| (p1 <<< (p0 &&& 31)))) 21), upd st 21 (((st 21) &&& ((1 <<< (p0 &&& 31)) ^^^ (-1))) ||| (p1 <<< (p0 &&& 31))))))
theorem iX3_take_X3 : ∀ w ∈ u_ws RX3 TX3 16, w ∈ wsX3_take := fun _ h => List.mem_cons_of_mem _ (List.mem_append_right _ (h))
set_option maxHeartbeats 4000000 in
set_option maxRecDepth 100000 in
theorem c_X3_take (l : Launch) (D : va_G) (cI cZ : ClassId) (h0 ast aim akt : Nat) (st : Nat → Int32) (md : Rd) (p0 : Int32) (p1 : Int32) : CTi l yX3_take wsX3_take ({ frames := 2, cells := 0, slots := 0, locals := 46 } : Room) D cI cZ [.ref h0, .int p0, .int p1] [(h0, .inr (3, mdv ast aim akt md)), (ast, .inl (cI, 23, .inl st))] (S := (Nat → Int32)) (fun z9 u9 => F_X3_take st p0 p1 = (z9, u9)) (fun u => [(h0, .inr (3, mdv ast aim akt md)), (ast, .inl (cI, 23, .inl u))]) := by
  refine enterM (cc := cX3_take) (maxL := 3) (ret := (some .int)) (own := RX3) (Qc := fun A => va_Qi (S := (Nat → Int32)) (fun z9 u9 => F_X3_take st p0 p1 = (z9, u9)) (PoB (S := (Nat → Int32)) D A (fun u => [(h0, .inr (3, mdv ast aim akt md)), (ast, .inl (cI, 23, .inl u))])) A) (by decide) rfl rfl (Nat.le_of_ble_eq_true rfl) ?_
  intro p e s m below meth c A ls C hK hA hP hD hS hl
  have hx := C.1
  have hb := C.2.1
  have hown := C.2.2.2.1
  have hts := C.2.2.2.2.1
  have _huse := hts
  have hl : lv_has ls 3 [(0, .ref h0), (1, .int p0), (2, .int p1)] := hl
  refine lv_aload_n hx hb dX3_take_0 rfl (lv_at hl 0 rfl) ?_
  refine lv_iload_n hx hb dX3_take_1 rfl (lv_at hl 1 rfl) ?_
  refine aft_i (wr := []) (run_V (As := [.int p0]) (rest := []) C (c_X3_isSample l D cI cZ h0 ast aim akt st md p0) (cwV 1 hts gX3_take_X3_isSample rfl rfl rfl (by decide +kernel) ⟨Nat.le_of_ble_eq_true rfl, Nat.le_of_ble_eq_true rfl⟩) hK (hP.sub (ws' := [(h0, .inr (3, mdv ast aim akt md)), (ast, .inl (cI, 23, .inl st))]) [0, 1] rfl) (hD.sub (ws' := [(h0, .inr (3, mdv ast aim akt md)), (ast, .inl (cI, 23, .inl st))]) [0, 1] (by decide) rfl) 0 3 rfl rfl rfl rfl hl.1 rfl (Nat.le_of_ble_eq_true rfl) dX3_take_2 (Nat.zero_le _) (Nat.zero_le _)) hP hD hS hA [0, 1] [] rfl rfl (by decide) (by decide) (fun z9 u9 H locs hw hP hD hS => ?_)
  subst hw
  have hP : va_P D classes [(h0, .inr (3, mdv ast aim akt md)), (ast, .inl (cI, 23, .inl st))] H := hP
  have hD : va_D A [(h0, .inr (3, mdv ast aim akt md)), (ast, .inl (cI, 23, .inl st))] := hD
  refine lv_if_ne (tgt := 10) hx hb dX3_take_5 (by decide) (fun c_5 => ?_) (fun c_5 => ?_)
  · refine lv_iload_n hx hb dX3_take_10 rfl (lv_at hl 2 rfl) ?_
    refine lv_i2l (v := p1.toInt64) hx hb dX3_take_11 rfl ?_
    refine lv_lconst (v := 0) hx hb dX3_take_12 (by decide) ?_
    refine lv_lconst (v := 1) hx hb dX3_take_13 (by decide) ?_
    refine aft_i (wr := [(h0, .inr (3, mdv ast aim akt md)), (ast, .inl (cI, 23, .inl st))]) (run_S (As := [.long p1.toInt64, .long 0, .long 1]) (rest := []) C (c_X3_in l D cI cZ p1.toInt64 0 1) (va_cwS 3 hts gX3_take_X3_in rfl rfl rfl (by decide +kernel) ⟨Nat.le_of_ble_eq_true rfl, Nat.le_of_ble_eq_true rfl⟩) hK (hP.sub (ws' := []) [] rfl) (hD.sub (ws' := []) [] (by decide) rfl) rfl hl.1 rfl (Nat.le_of_ble_eq_true rfl) dX3_take_14 (Nat.zero_le _) (Nat.zero_le _)) hP hD hS hA [] [0, 1] rfl rfl (by decide) (by decide) (fun z9 u9 H locs hw hP hD hS => ?_)
    subst hw
    have hP : va_P D classes [(h0, .inr (3, mdv ast aim akt md)), (ast, .inl (cI, 23, .inl st))] H := hP
    have hD : va_D A [(h0, .inr (3, mdv ast aim akt md)), (ast, .inl (cI, 23, .inl st))] := hD
    refine lv_if_ne (tgt := 23) hx hb dX3_take_17 (by decide) (fun c_17 => ?_) (fun c_17 => ?_)
    · refine lv_aload_n hx hb dX3_take_23 rfl (lv_at hl 0 rfl) ?_
      refine va_get (D := D) (ci := 3) (v := .ref ast) (C := RX3) (T := TX3) (N := 16) hx hb hts iX3_take_X3 hown hK.1 hP 0 rfl rfl 0 (by decide) (hts (.fieldLink RX3 7 "CompassBiasModel" "state" "[I") (List.mem_of_getElem? (i := 1) rfl)) (fun _ h9 => h9) rfl dX3_take_24 ?_
      refine lv_bipush (v := 21) hx hb dX3_take_27 (by decide) ?_
      refine lv_aload_n hx hb dX3_take_29 rfl (lv_at hl 0 rfl) ?_
      refine va_get (D := D) (ci := 3) (v := .ref ast) (C := RX3) (T := TX3) (N := 16) hx hb hts iX3_take_X3 hown hK.1 hP 0 rfl rfl 0 (by decide) (hts (.fieldLink RX3 7 "CompassBiasModel" "state" "[I") (List.mem_of_getElem? (i := 1) rfl)) (fun _ h9 => h9) rfl dX3_take_30 ?_
      refine lv_bipush (v := 21) hx hb dX3_take_33 (by decide) ?_
      refine va_iald hx hb hK.1 hP 1 0 rfl rfl (vp_lit (by decide)) dX3_take_35 ?_
      refine W.eq (g2 := F0 m 36 ls [.int (st 21), .int 21, .ref ast]) rfl ?_
      refine lv_iconst (v := 1) hx hb dX3_take_36 (by decide) ?_
      refine lv_iload_n hx hb dX3_take_37 rfl (lv_at hl 1 rfl) ?_
      refine lv_ishl hx hb dX3_take_38 ?_
      refine lv_iconst (v := (-1)) hx hb dX3_take_39 (by decide) ?_
      refine lv_ixor hx hb dX3_take_40 ?_
      refine lv_iand hx hb dX3_take_41 ?_
      refine lv_iload_n hx hb dX3_take_42 rfl (lv_at hl 2 rfl) ?_
      refine lv_iload_n hx hb dX3_take_43 rfl (lv_at hl 1 rfl) ?_
      refine lv_ishl hx hb dX3_take_44 ?_
      refine lv_ior hx hb dX3_take_45 ?_
      refine va_iast hx hb hK.1 hP hD hS 1 0 rfl rfl (vp_lit (by decide)) dX3_take_46 (fun H locs hP hD hS => ?_)
      have hP : va_P D classes [(h0, .inr (3, mdv ast aim akt md)), (ast, .inl (cI, 23, .inl (upd st 21 (((st 21) &&& ((1 <<< (p0 &&& 31)) ^^^ (-1))) ||| (p1 <<< (p0 &&& 31))))))] H := hP
      have hD : va_D A [(h0, .inr (3, mdv ast aim akt md)), (ast, .inl (cI, 23, .inl (upd st 21 (((st 21) &&& ((1 <<< (p0 &&& 31)) ^^^ (-1))) ||| (p1 <<< (p0 &&& 31))))))] := hD
      refine lv_aload_n hx hb dX3_take_47 rfl (lv_at hl 0 rfl) ?_
      refine va_get (D := D) (ci := 3) (v := .ref ast) (C := RX3) (T := TX3) (N := 16) hx hb hts iX3_take_X3 hown hK.1 hP 0 rfl rfl 0 (by decide) (hts (.fieldLink RX3 7 "CompassBiasModel" "state" "[I") (List.mem_of_getElem? (i := 1) rfl)) (fun _ h9 => h9) rfl dX3_take_48 ?_
      refine lv_bipush (v := 21) hx hb dX3_take_51 (by decide) ?_
      refine va_iald hx hb hK.1 hP 1 0 rfl rfl (vp_lit (by decide)) dX3_take_53 ?_
      refine W.eq (g2 := F0 m 54 ls [.int ((upd st 21 (((st 21) &&& ((1 <<< (p0 &&& 31)) ^^^ (-1))) ||| (p1 <<< (p0 &&& 31)))) 21)]) rfl ?_
      refine aft_i (wr := [(h0, .inr (3, mdv ast aim akt md)), (ast, .inl (cI, 23, .inl (upd st 21 (((st 21) &&& ((1 <<< (p0 &&& 31)) ^^^ (-1))) ||| (p1 <<< (p0 &&& 31))))))]) (run_S (As := [.int ((upd st 21 (((st 21) &&& ((1 <<< (p0 &&& 31)) ^^^ (-1))) ||| (p1 <<< (p0 &&& 31)))) 21)]) (rest := []) C (c_X3_size l D cI cZ ((upd st 21 (((st 21) &&& ((1 <<< (p0 &&& 31)) ^^^ (-1))) ||| (p1 <<< (p0 &&& 31)))) 21)) (va_cwS 1 hts gX3_take_X3_size rfl rfl rfl (by decide +kernel) ⟨Nat.le_of_ble_eq_true rfl, Nat.le_of_ble_eq_true rfl⟩) hK (hP.sub (ws' := []) [] rfl) (hD.sub (ws' := []) [] (by decide) rfl) rfl hl.1 rfl (Nat.le_of_ble_eq_true rfl) dX3_take_54 (Nat.zero_le _) (Nat.zero_le _)) hP hD hS hA [] [0, 1] rfl rfl (by decide) (by decide) (fun z9 u9 H locs hw hP hD hS => ?_)
      subst hw
      have hP : va_P D classes [(h0, .inr (3, mdv ast aim akt md)), (ast, .inl (cI, 23, .inl (upd st 21 (((st 21) &&& ((1 <<< (p0 &&& 31)) ^^^ (-1))) ||| (p1 <<< (p0 &&& 31))))))] H := hP
      have hD : va_D A [(h0, .inr (3, mdv ast aim akt md)), (ast, .inl (cI, 23, .inl (upd st 21 (((st 21) &&& ((1 <<< (p0 &&& 31)) ^^^ (-1))) ||| (p1 <<< (p0 &&& 31))))))] := hD
      exact ret_i C (upd st 21 (((st 21) &&& ((1 <<< (p0 &&& 31)) ^^^ (-1))) ||| (p1 <<< (p0 &&& 31)))) ((if_neg c_5).trans ((if_neg c_17))) hP hD hS dX3_take_57
    · refine lv_bipush (v := (-2)) hx hb dX3_take_20 (by decide) ?_
      exact ret_i C st ((if_neg c_5).trans ((if_pos c_17))) hP hD hS dX3_take_22
  · refine lv_iconst (v := (-1)) hx hb dX3_take_8 (by decide) ?_
    exact ret_i C st (if_pos c_5) hP hD hS dX3_take_9
def F_X3_of (st : Nat → Int32) (p0 : Int32) (p1 : Int32) : Int32 := if (F_X3_isSample st p0) = 0 then ((-1)) else (if p1 = 0 then ((st (0 + p0).toNatClampNeg) + 100) else (if p1 = 1 then ((st (10 + p0).toNatClampNeg) + 100) else (if p1 = 2 then (((st 21) >>> (p0 &&& 31)) &&& 1) else (if p1 = 3 then (F_X3_power (st (0 + p0).toNatClampNeg) (st (10 + p0).toNatClampNeg)) else ((-2))))))
theorem samp3 {st : Nat → Int32} {p0 : Int32} (hm : MB st) (h : ¬ F_X3_isSample st p0 = 0) : ∃ k : Nat, k < 10 ∧ p0.toInt = (k : Int) := by
  have h1 := in_ne h
  have e0 : (0 : Int64).toInt = 0 := by decide
  have e1 : (-1 : Int32).toInt = -1 := by decide
  obtain ⟨m1, m2⟩ := hm
  have hs : st 20 - 1 = st 20 + (-1) := Int32.sub_eq_add_neg _ _
  rw [Int32.toInt_toInt64, Int32.toInt_toInt64, e0, hs, i_add (by omega) (by omega), e1] at h1
  exact ⟨p0.toInt.toNat, by omega, by omega⟩
theorem samp3x {st : Nat → Int32} {p0 : Int32} (hm : MB st) (h : ¬ F_X3_isSample st p0 = 0) : vp_in (0 + p0) 23 := by
  obtain ⟨k, h1, h2⟩ := samp3 hm h
  exact vp_x h2 h1
theorem samp3y {st : Nat → Int32} {p0 : Int32} (hm : MB st) (h : ¬ F_X3_isSample st p0 = 0) : vp_in (10 + p0) 23 := by
  obtain ⟨k, h1, h2⟩ := samp3 hm h
  exact vp_y h2 h1
theorem iX3_of_X3 : ∀ w ∈ u_ws RX3 TX3 16, w ∈ wsX3_of := fun _ h => List.mem_cons_of_mem _ (List.mem_append_right _ (h))
set_option maxHeartbeats 4000000 in
set_option maxRecDepth 100000 in
theorem c_X3_of (l : Launch) (D : va_G) (cI cZ : ClassId) (h0 ast aim akt : Nat) (st : Nat → Int32) (md : Rd) (p0 : Int32) (p1 : Int32) (hm : MB st) : CTi l yX3_of wsX3_of ({ frames := 2, cells := 0, slots := 0, locals := 46 } : Room) D cI cZ [.ref h0, .int p0, .int p1] [(h0, .inr (3, mdv ast aim akt md)), (ast, .inl (cI, 23, .inl st))] (S := Unit) (fun z9 _ => F_X3_of st p0 p1 = z9) (fun _ => [(h0, .inr (3, mdv ast aim akt md)), (ast, .inl (cI, 23, .inl st))]) := by
  refine enterM (cc := cX3_of) (maxL := 3) (ret := (some .int)) (own := RX3) (Qc := fun A => va_Qi (S := Unit) (fun z9 _ => F_X3_of st p0 p1 = z9) (PoB (S := Unit) D A (fun _ => [(h0, .inr (3, mdv ast aim akt md)), (ast, .inl (cI, 23, .inl st))])) A) (by decide) rfl rfl (Nat.le_of_ble_eq_true rfl) ?_
  intro p e s m below meth c A ls C hK hA hP hD hS hl
  have hx := C.1
  have hb := C.2.1
  have hown := C.2.2.2.1
  have hts := C.2.2.2.2.1
  have _huse := hts
  have hl : lv_has ls 3 [(0, .ref h0), (1, .int p0), (2, .int p1)] := hl
  refine lv_aload_n hx hb dX3_of_0 rfl (lv_at hl 0 rfl) ?_
  refine lv_iload_n hx hb dX3_of_1 rfl (lv_at hl 1 rfl) ?_
  refine aft_i (wr := []) (run_V (As := [.int p0]) (rest := []) C (c_X3_isSample l D cI cZ h0 ast aim akt st md p0) (cwV 1 hts gX3_of_X3_isSample rfl rfl rfl (by decide +kernel) ⟨Nat.le_of_ble_eq_true rfl, Nat.le_of_ble_eq_true rfl⟩) hK (hP.sub (ws' := [(h0, .inr (3, mdv ast aim akt md)), (ast, .inl (cI, 23, .inl st))]) [0, 1] rfl) (hD.sub (ws' := [(h0, .inr (3, mdv ast aim akt md)), (ast, .inl (cI, 23, .inl st))]) [0, 1] (by decide) rfl) 0 3 rfl rfl rfl rfl hl.1 rfl (Nat.le_of_ble_eq_true rfl) dX3_of_2 (Nat.zero_le _) (Nat.zero_le _)) hP hD hS hA [0, 1] [] rfl rfl (by decide) (by decide) (fun z9 u9 H locs hw hP hD hS => ?_)
  subst hw
  have hP : va_P D classes [(h0, .inr (3, mdv ast aim akt md)), (ast, .inl (cI, 23, .inl st))] H := hP
  have hD : va_D A [(h0, .inr (3, mdv ast aim akt md)), (ast, .inl (cI, 23, .inl st))] := hD
  refine lv_if_ne (tgt := 10) hx hb dX3_of_5 (by decide) (fun c_5 => ?_) (fun c_5 => ?_)
  · refine lv_iload_n hx hb dX3_of_10 rfl (lv_at hl 2 rfl) ?_
    by_cases c_11_0 : p1 = 0
    · refine lv_tableIn (off := 29) (tgt := 40) hx hb dX3_of_11 (by rw [c_11_0]; decide) (by rw [c_11_0]; decide) (by rw [c_11_0]; rfl) (by decide) ?_
      refine lv_aload_n hx hb dX3_of_40 rfl (lv_at hl 0 rfl) ?_
      refine va_get (D := D) (ci := 3) (v := .ref ast) (C := RX3) (T := TX3) (N := 16) hx hb hts iX3_of_X3 hown hK.1 hP 0 rfl rfl 0 (by decide) (hts (.fieldLink RX3 7 "CompassBiasModel" "state" "[I") (List.mem_of_getElem? (i := 1) rfl)) (fun _ h9 => h9) rfl dX3_of_41 ?_
      refine lv_iconst (v := 0) hx hb dX3_of_44 (by decide) ?_
      refine lv_iload_n hx hb dX3_of_45 rfl (lv_at hl 1 rfl) ?_
      refine lv_iadd hx hb dX3_of_46 ?_
      refine va_iald hx hb hK.1 hP 1 0 rfl rfl (samp3x hm c_5) dX3_of_47 ?_
      refine lv_bipush (v := 100) hx hb dX3_of_48 (by decide) ?_
      refine lv_iadd hx hb dX3_of_50 ?_
      exact ret_i C () ((if_neg c_5).trans ((if_pos c_11_0))) hP hD hS dX3_of_51
    · by_cases c_11_1 : p1 = 1
      · refine lv_tableIn (off := 41) (tgt := 52) hx hb dX3_of_11 (by rw [c_11_1]; decide) (by rw [c_11_1]; decide) (by rw [c_11_1]; rfl) (by decide) ?_
        refine lv_aload_n hx hb dX3_of_52 rfl (lv_at hl 0 rfl) ?_
        refine va_get (D := D) (ci := 3) (v := .ref ast) (C := RX3) (T := TX3) (N := 16) hx hb hts iX3_of_X3 hown hK.1 hP 0 rfl rfl 0 (by decide) (hts (.fieldLink RX3 7 "CompassBiasModel" "state" "[I") (List.mem_of_getElem? (i := 1) rfl)) (fun _ h9 => h9) rfl dX3_of_53 ?_
        refine lv_bipush (v := 10) hx hb dX3_of_56 (by decide) ?_
        refine lv_iload_n hx hb dX3_of_58 rfl (lv_at hl 1 rfl) ?_
        refine lv_iadd hx hb dX3_of_59 ?_
        refine va_iald hx hb hK.1 hP 1 0 rfl rfl (samp3y hm c_5) dX3_of_60 ?_
        refine lv_bipush (v := 100) hx hb dX3_of_61 (by decide) ?_
        refine lv_iadd hx hb dX3_of_63 ?_
        exact ret_i C () ((if_neg c_5).trans ((if_neg c_11_0).trans ((if_pos c_11_1)))) hP hD hS dX3_of_64
      · by_cases c_11_2 : p1 = 2
        · refine lv_tableIn (off := 54) (tgt := 65) hx hb dX3_of_11 (by rw [c_11_2]; decide) (by rw [c_11_2]; decide) (by rw [c_11_2]; rfl) (by decide) ?_
          refine lv_aload_n hx hb dX3_of_65 rfl (lv_at hl 0 rfl) ?_
          refine va_get (D := D) (ci := 3) (v := .ref ast) (C := RX3) (T := TX3) (N := 16) hx hb hts iX3_of_X3 hown hK.1 hP 0 rfl rfl 0 (by decide) (hts (.fieldLink RX3 7 "CompassBiasModel" "state" "[I") (List.mem_of_getElem? (i := 1) rfl)) (fun _ h9 => h9) rfl dX3_of_66 ?_
          refine lv_bipush (v := 21) hx hb dX3_of_69 (by decide) ?_
          refine va_iald hx hb hK.1 hP 1 0 rfl rfl (vp_lit (by decide)) dX3_of_71 ?_
          refine W.eq (g2 := F0 m 72 ls [.int (st 21)]) rfl ?_
          refine lv_iload_n hx hb dX3_of_72 rfl (lv_at hl 1 rfl) ?_
          refine lv_ishr hx hb dX3_of_73 ?_
          refine lv_iconst (v := 1) hx hb dX3_of_74 (by decide) ?_
          refine lv_iand hx hb dX3_of_75 ?_
          exact ret_i C () ((if_neg c_5).trans ((if_neg c_11_0).trans ((if_neg c_11_1).trans ((if_pos c_11_2))))) hP hD hS dX3_of_76
        · by_cases c_11_3 : p1 = 3
          · refine lv_tableIn (off := 66) (tgt := 77) hx hb dX3_of_11 (by rw [c_11_3]; decide) (by rw [c_11_3]; decide) (by rw [c_11_3]; rfl) (by decide) ?_
            refine lv_aload_n hx hb dX3_of_77 rfl (lv_at hl 0 rfl) ?_
            refine va_get (D := D) (ci := 3) (v := .ref ast) (C := RX3) (T := TX3) (N := 16) hx hb hts iX3_of_X3 hown hK.1 hP 0 rfl rfl 0 (by decide) (hts (.fieldLink RX3 7 "CompassBiasModel" "state" "[I") (List.mem_of_getElem? (i := 1) rfl)) (fun _ h9 => h9) rfl dX3_of_78 ?_
            refine lv_iconst (v := 0) hx hb dX3_of_81 (by decide) ?_
            refine lv_iload_n hx hb dX3_of_82 rfl (lv_at hl 1 rfl) ?_
            refine lv_iadd hx hb dX3_of_83 ?_
            refine va_iald hx hb hK.1 hP 1 0 rfl rfl (samp3x hm c_5) dX3_of_84 ?_
            refine lv_aload_n hx hb dX3_of_85 rfl (lv_at hl 0 rfl) ?_
            refine va_get (D := D) (ci := 3) (v := .ref ast) (C := RX3) (T := TX3) (N := 16) hx hb hts iX3_of_X3 hown hK.1 hP 0 rfl rfl 0 (by decide) (hts (.fieldLink RX3 7 "CompassBiasModel" "state" "[I") (List.mem_of_getElem? (i := 1) rfl)) (fun _ h9 => h9) rfl dX3_of_86 ?_
            refine lv_bipush (v := 10) hx hb dX3_of_89 (by decide) ?_
            refine lv_iload_n hx hb dX3_of_91 rfl (lv_at hl 1 rfl) ?_
            refine lv_iadd hx hb dX3_of_92 ?_
            refine va_iald hx hb hK.1 hP 1 0 rfl rfl (samp3y hm c_5) dX3_of_93 ?_
            refine aft_i (wr := [(h0, .inr (3, mdv ast aim akt md)), (ast, .inl (cI, 23, .inl st))]) (run_S (As := [.int (st (0 + p0).toNatClampNeg), .int (st (10 + p0).toNatClampNeg)]) (rest := []) C (c_X3_power l D cI cZ (st (0 + p0).toNatClampNeg) (st (10 + p0).toNatClampNeg)) (va_cwS 2 hts gX3_of_X3_power rfl rfl rfl (by decide +kernel) ⟨Nat.le_of_ble_eq_true rfl, Nat.le_of_ble_eq_true rfl⟩) hK (hP.sub (ws' := []) [] rfl) (hD.sub (ws' := []) [] (by decide) rfl) rfl hl.1 rfl (Nat.le_of_ble_eq_true rfl) dX3_of_94 (Nat.zero_le _) (Nat.zero_le _)) hP hD hS hA [] [0, 1] rfl rfl (by decide) (by decide) (fun z9 u9 H locs hw hP hD hS => ?_)
            subst hw
            have hP : va_P D classes [(h0, .inr (3, mdv ast aim akt md)), (ast, .inl (cI, 23, .inl st))] H := hP
            have hD : va_D A [(h0, .inr (3, mdv ast aim akt md)), (ast, .inl (cI, 23, .inl st))] := hD
            exact ret_i C () ((if_neg c_5).trans ((if_neg c_11_0).trans ((if_neg c_11_1).trans ((if_neg c_11_2).trans ((if_pos c_11_3)))))) hP hD hS dX3_of_97
          · refine lv_tableOut (tgt := 98) hx hb dX3_of_11 (by have h0 := lv_neT c_11_0 (a := 0) rfl; have h1 := lv_neT c_11_1 (a := 1) rfl; have h2 := lv_neT c_11_2 (a := 2) rfl; have h3 := lv_neT c_11_3 (a := 3) rfl; omega) (by decide) ?_
            refine lv_bipush (v := (-2)) hx hb dX3_of_98 (by decide) ?_
            exact ret_i C () ((if_neg c_5).trans ((if_neg c_11_0).trans ((if_neg c_11_1).trans ((if_neg c_11_2).trans ((if_neg c_11_3)))))) hP hD hS dX3_of_100
  · refine lv_iconst (v := (-1)) hx hb dX3_of_8 (by decide) ?_
    exact ret_i C () (if_pos c_5) hP hD hS dX3_of_9
def F_X3_need (st : Nat → Int32) (p0 : Int32) : Int32 × (Nat → Int32) := if (F_X3_in p0.toInt64 1 8) = 0 then (((-2), st)) else ((st 22, upd st 22 p0))
theorem iX3_need_X3 : ∀ w ∈ u_ws RX3 TX3 16, w ∈ wsX3_need := fun _ h => List.mem_cons_of_mem _ (List.mem_append_right _ (h))
set_option maxHeartbeats 4000000 in
set_option maxRecDepth 100000 in
theorem c_X3_need (l : Launch) (D : va_G) (cI cZ : ClassId) (h0 ast aim akt : Nat) (st : Nat → Int32) (md : Rd) (p0 : Int32) : CTi l yX3_need wsX3_need ({ frames := 1, cells := 0, slots := 0, locals := 25 } : Room) D cI cZ [.ref h0, .int p0] [(h0, .inr (3, mdv ast aim akt md)), (ast, .inl (cI, 23, .inl st))] (S := (Nat → Int32)) (fun z9 u9 => F_X3_need st p0 = (z9, u9)) (fun u => [(h0, .inr (3, mdv ast aim akt md)), (ast, .inl (cI, 23, .inl u))]) := by
  refine enterM (cc := cX3_need) (maxL := 3) (ret := (some .int)) (own := RX3) (Qc := fun A => va_Qi (S := (Nat → Int32)) (fun z9 u9 => F_X3_need st p0 = (z9, u9)) (PoB (S := (Nat → Int32)) D A (fun u => [(h0, .inr (3, mdv ast aim akt md)), (ast, .inl (cI, 23, .inl u))])) A) (by decide) rfl rfl (Nat.le_of_ble_eq_true rfl) ?_
  intro p e s m below meth c A ls C hK hA hP hD hS hl
  have hx := C.1
  have hb := C.2.1
  have hown := C.2.2.2.1
  have hts := C.2.2.2.2.1
  have _huse := hts
  have hl : lv_has ls 3 [(0, .ref h0), (1, .int p0)] := hl
  refine lv_iload_n hx hb dX3_need_0 rfl (lv_at hl 1 rfl) ?_
  refine lv_i2l (v := p0.toInt64) hx hb dX3_need_1 rfl ?_
  refine lv_lconst (v := 1) hx hb dX3_need_2 (by decide) ?_
  refine lv_ldc2 (v := 8) hx hb hown (hts (.constantLong RX3 143 (8)) (List.mem_of_getElem? (i := 1) rfl)) dX3_need_3 ?_
  refine aft_i (wr := [(h0, .inr (3, mdv ast aim akt md)), (ast, .inl (cI, 23, .inl st))]) (run_S (As := [.long p0.toInt64, .long 1, .long 8]) (rest := []) C (c_X3_in l D cI cZ p0.toInt64 1 8) (va_cwS 3 hts gX3_need_X3_in rfl rfl rfl (by decide +kernel) ⟨Nat.le_of_ble_eq_true rfl, Nat.le_of_ble_eq_true rfl⟩) hK (hP.sub (ws' := []) [] rfl) (hD.sub (ws' := []) [] (by decide) rfl) rfl hl.1 rfl (Nat.le_of_ble_eq_true rfl) dX3_need_6 (Nat.zero_le _) (Nat.zero_le _)) hP hD hS hA [] [0, 1] rfl rfl (by decide) (by decide) (fun z9 u9 H locs hw hP hD hS => ?_)
  subst hw
  have hP : va_P D classes [(h0, .inr (3, mdv ast aim akt md)), (ast, .inl (cI, 23, .inl st))] H := hP
  have hD : va_D A [(h0, .inr (3, mdv ast aim akt md)), (ast, .inl (cI, 23, .inl st))] := hD
  refine lv_if_ne (tgt := 15) hx hb dX3_need_9 (by decide) (fun c_9 => ?_) (fun c_9 => ?_)
  · refine lv_aload_n hx hb dX3_need_15 rfl (lv_at hl 0 rfl) ?_
    refine va_get (D := D) (ci := 3) (v := .ref ast) (C := RX3) (T := TX3) (N := 16) hx hb hts iX3_need_X3 hown hK.1 hP 0 rfl rfl 0 (by decide) (hts (.fieldLink RX3 7 "CompassBiasModel" "state" "[I") (List.mem_of_getElem? (i := 2) rfl)) (fun _ h9 => h9) rfl dX3_need_16 ?_
    refine lv_bipush (v := 22) hx hb dX3_need_19 (by decide) ?_
    refine va_iald hx hb hK.1 hP 1 0 rfl rfl (vp_lit (by decide)) dX3_need_21 ?_
    refine W.eq (g2 := F0 m 22 ls [.int (st 22)]) rfl ?_
    refine lv_istore_n (lv' := [(2, .int (st 22)), (0, .ref h0), (1, .int p0)]) hx hb dX3_need_22 rfl hl (by decide) rfl (fun ls hl => ?_)
    refine lv_aload_n hx hb dX3_need_23 rfl (lv_at hl 1 rfl) ?_
    refine va_get (D := D) (ci := 3) (v := .ref ast) (C := RX3) (T := TX3) (N := 16) hx hb hts iX3_need_X3 hown hK.1 hP 0 rfl rfl 0 (by decide) (hts (.fieldLink RX3 7 "CompassBiasModel" "state" "[I") (List.mem_of_getElem? (i := 2) rfl)) (fun _ h9 => h9) rfl dX3_need_24 ?_
    refine lv_bipush (v := 22) hx hb dX3_need_27 (by decide) ?_
    refine lv_iload_n hx hb dX3_need_29 rfl (lv_at hl 2 rfl) ?_
    refine va_iast hx hb hK.1 hP hD hS 1 0 rfl rfl (vp_lit (by decide)) dX3_need_30 (fun H locs hP hD hS => ?_)
    have hP : va_P D classes [(h0, .inr (3, mdv ast aim akt md)), (ast, .inl (cI, 23, .inl (upd st 22 p0)))] H := hP
    have hD : va_D A [(h0, .inr (3, mdv ast aim akt md)), (ast, .inl (cI, 23, .inl (upd st 22 p0)))] := hD
    refine lv_iload_n hx hb dX3_need_31 rfl (lv_at hl 0 rfl) ?_
    exact ret_i C (upd st 22 p0) (if_neg c_9) hP hD hS dX3_need_32
  · refine lv_bipush (v := (-2)) hx hb dX3_need_12 (by decide) ?_
    exact ret_i C st (if_pos c_9) hP hD hS dX3_need_14
def F_X3_sumOne (md : Rd) (p0 : Int32) (p1 : Int32) : Rd := (md.1 + 1, md.2.1 + p0.toInt64, md.2.2.1 + p1.toInt64, md.2.2.2.1 + ((p0 * p0).toInt64), md.2.2.2.2.1 + ((p0 * p1).toInt64), md.2.2.2.2.2.1 + ((p1 * p1).toInt64), md.2.2.2.2.2.2.1 + ((F_X3_power p0 p1).toInt64), md.2.2.2.2.2.2.2.1 + (((F_X3_power p0 p1) * p0).toInt64), md.2.2.2.2.2.2.2.2.1 + (((F_X3_power p0 p1) * p1).toInt64), md.2.2.2.2.2.2.2.2.2.1, md.2.2.2.2.2.2.2.2.2.2.1, md.2.2.2.2.2.2.2.2.2.2.2.1, md.2.2.2.2.2.2.2.2.2.2.2.2)
theorem iX3_sumOne_X3 : ∀ w ∈ u_ws RX3 TX3 16, w ∈ wsX3_sumOne := fun _ h => List.mem_cons_of_mem _ (List.mem_append_right _ (h))
set_option maxHeartbeats 4000000 in
set_option maxRecDepth 100000 in
theorem c_X3_sumOne (l : Launch) (D : va_G) (cI cZ : ClassId) (h0 ast aim akt : Nat) (md : Rd) (p0 : Int32) (p1 : Int32) : CTv l yX3_sumOne wsX3_sumOne ({ frames := 1, cells := 0, slots := 0, locals := 21 } : Room) D cI cZ [.ref h0, .int p0, .int p1] [(h0, .inr (3, mdv ast aim akt md))] (S := Rd) (fun u9 => F_X3_sumOne md p0 p1 = u9) (fun u => [(h0, .inr (3, mdv ast aim akt u))]) := by
  refine enterM (cc := cX3_sumOne) (maxL := 4) (ret := none) (own := RX3) (Qc := fun A => va_Qv (S := Rd) (fun u9 => F_X3_sumOne md p0 p1 = u9) (PoB (S := Rd) D A (fun u => [(h0, .inr (3, mdv ast aim akt u))])) A) (by decide) rfl rfl (Nat.le_of_ble_eq_true rfl) ?_
  intro p e s m below meth c A ls C hK hA hP hD hS hl
  have hx := C.1
  have hb := C.2.1
  have hown := C.2.2.2.1
  have hts := C.2.2.2.2.1
  have _huse := hts
  have hl : lv_has ls 4 [(0, .ref h0), (1, .int p0), (2, .int p1)] := hl
  refine lv_iload_n hx hb dX3_sumOne_0 rfl (lv_at hl 1 rfl) ?_
  refine lv_iload_n hx hb dX3_sumOne_1 rfl (lv_at hl 2 rfl) ?_
  refine aft_i (wr := [(h0, .inr (3, mdv ast aim akt md))]) (run_S (As := [.int p0, .int p1]) (rest := []) C (c_X3_power l D cI cZ p0 p1) (va_cwS 2 hts gX3_sumOne_X3_power rfl rfl rfl (by decide +kernel) ⟨Nat.le_of_ble_eq_true rfl, Nat.le_of_ble_eq_true rfl⟩) hK (hP.sub (ws' := []) [] rfl) (hD.sub (ws' := []) [] (by decide) rfl) rfl hl.1 rfl (Nat.le_of_ble_eq_true rfl) dX3_sumOne_2 (Nat.zero_le _) (Nat.zero_le _)) hP hD hS hA [] [0] rfl rfl (by decide) (by decide) (fun z9 u9 H locs hw hP hD hS => ?_)
  subst hw
  have hP : va_P D classes [(h0, .inr (3, mdv ast aim akt md))] H := hP
  have hD : va_D A [(h0, .inr (3, mdv ast aim akt md))] := hD
  refine lv_istore_n (lv' := [(3, .int (F_X3_power p0 p1)), (0, .ref h0), (1, .int p0), (2, .int p1)]) hx hb dX3_sumOne_5 rfl hl (by decide) rfl (fun ls hl => ?_)
  refine lv_aload_n hx hb dX3_sumOne_6 rfl (lv_at hl 1 rfl) ?_
  refine lv_dup hx hb dX3_sumOne_7 rfl ?_
  refine va_get (D := D) (ci := 3) (v := .long md.1) (C := RX3) (T := TX3) (N := 16) hx hb hts iX3_sumOne_X3 hown hK.1 hP 0 rfl rfl 3 (by decide) (hts (.fieldLink RX3 44 "CompassBiasModel" "n" "J") (List.mem_of_getElem? (i := 1) rfl)) (fun _ h9 => h9) rfl dX3_sumOne_8 ?_
  refine lv_lconst (v := 1) hx hb dX3_sumOne_11 (by decide) ?_
  refine lv_ladd hx hb dX3_sumOne_12 ?_
  refine va_put (D := D) (ci := 3) (v := .long (md.1 + 1)) (ty := .long) (C := RX3) (T := TX3) (N := 16) hx hb hts iX3_sumOne_X3 tyX3 tyX3_ok nmX3 hown hK.1 hP hD hS 0 rfl rfl 3 (by decide) (hts (.fieldLink RX3 44 "CompassBiasModel" "n" "J") (List.mem_of_getElem? (i := 1) rfl)) (fun _ h9 => h9) rfl (by decide +kernel) rfl rfl (Nat.le_of_ble_eq_true rfl) dX3_sumOne_13 (fun H locs hP hD hS => ?_)
  have hP : va_P D classes [(h0, .inr (3, mdv ast aim akt (md.1 + 1, md.2.1, md.2.2.1, md.2.2.2.1, md.2.2.2.2.1, md.2.2.2.2.2.1, md.2.2.2.2.2.2.1, md.2.2.2.2.2.2.2.1, md.2.2.2.2.2.2.2.2.1, md.2.2.2.2.2.2.2.2.2.1, md.2.2.2.2.2.2.2.2.2.2.1, md.2.2.2.2.2.2.2.2.2.2.2.1, md.2.2.2.2.2.2.2.2.2.2.2.2)))] H := hP
  have hD : va_D A [(h0, .inr (3, mdv ast aim akt (md.1 + 1, md.2.1, md.2.2.1, md.2.2.2.1, md.2.2.2.2.1, md.2.2.2.2.2.1, md.2.2.2.2.2.2.1, md.2.2.2.2.2.2.2.1, md.2.2.2.2.2.2.2.2.1, md.2.2.2.2.2.2.2.2.2.1, md.2.2.2.2.2.2.2.2.2.2.1, md.2.2.2.2.2.2.2.2.2.2.2.1, md.2.2.2.2.2.2.2.2.2.2.2.2)))] := hD
  refine lv_aload_n hx hb dX3_sumOne_16 rfl (lv_at hl 1 rfl) ?_
  refine lv_dup hx hb dX3_sumOne_17 rfl ?_
  refine va_get (D := D) (ci := 3) (v := .long md.2.1) (C := RX3) (T := TX3) (N := 16) hx hb hts iX3_sumOne_X3 hown hK.1 hP 0 rfl rfl 4 (by decide) (hts (.fieldLink RX3 48 "CompassBiasModel" "sx" "J") (List.mem_of_getElem? (i := 2) rfl)) (fun _ h9 => h9) rfl dX3_sumOne_18 ?_
  refine lv_iload_n hx hb dX3_sumOne_21 rfl (lv_at hl 2 rfl) ?_
  refine lv_i2l (v := p0.toInt64) hx hb dX3_sumOne_22 rfl ?_
  refine lv_ladd hx hb dX3_sumOne_23 ?_
  refine va_put (D := D) (ci := 3) (v := .long (md.2.1 + p0.toInt64)) (ty := .long) (C := RX3) (T := TX3) (N := 16) hx hb hts iX3_sumOne_X3 tyX3 tyX3_ok nmX3 hown hK.1 hP hD hS 0 rfl rfl 4 (by decide) (hts (.fieldLink RX3 48 "CompassBiasModel" "sx" "J") (List.mem_of_getElem? (i := 2) rfl)) (fun _ h9 => h9) rfl (by decide +kernel) rfl rfl (Nat.le_of_ble_eq_true rfl) dX3_sumOne_24 (fun H locs hP hD hS => ?_)
  have hP : va_P D classes [(h0, .inr (3, mdv ast aim akt (md.1 + 1, md.2.1 + p0.toInt64, md.2.2.1, md.2.2.2.1, md.2.2.2.2.1, md.2.2.2.2.2.1, md.2.2.2.2.2.2.1, md.2.2.2.2.2.2.2.1, md.2.2.2.2.2.2.2.2.1, md.2.2.2.2.2.2.2.2.2.1, md.2.2.2.2.2.2.2.2.2.2.1, md.2.2.2.2.2.2.2.2.2.2.2.1, md.2.2.2.2.2.2.2.2.2.2.2.2)))] H := hP
  have hD : va_D A [(h0, .inr (3, mdv ast aim akt (md.1 + 1, md.2.1 + p0.toInt64, md.2.2.1, md.2.2.2.1, md.2.2.2.2.1, md.2.2.2.2.2.1, md.2.2.2.2.2.2.1, md.2.2.2.2.2.2.2.1, md.2.2.2.2.2.2.2.2.1, md.2.2.2.2.2.2.2.2.2.1, md.2.2.2.2.2.2.2.2.2.2.1, md.2.2.2.2.2.2.2.2.2.2.2.1, md.2.2.2.2.2.2.2.2.2.2.2.2)))] := hD
  refine lv_aload_n hx hb dX3_sumOne_27 rfl (lv_at hl 1 rfl) ?_
  refine lv_dup hx hb dX3_sumOne_28 rfl ?_
  refine va_get (D := D) (ci := 3) (v := .long md.2.2.1) (C := RX3) (T := TX3) (N := 16) hx hb hts iX3_sumOne_X3 hown hK.1 hP 0 rfl rfl 5 (by decide) (hts (.fieldLink RX3 51 "CompassBiasModel" "sy" "J") (List.mem_of_getElem? (i := 3) rfl)) (fun _ h9 => h9) rfl dX3_sumOne_29 ?_
  refine lv_iload_n hx hb dX3_sumOne_32 rfl (lv_at hl 3 rfl) ?_
  refine lv_i2l (v := p1.toInt64) hx hb dX3_sumOne_33 rfl ?_
  refine lv_ladd hx hb dX3_sumOne_34 ?_
  refine va_put (D := D) (ci := 3) (v := .long (md.2.2.1 + p1.toInt64)) (ty := .long) (C := RX3) (T := TX3) (N := 16) hx hb hts iX3_sumOne_X3 tyX3 tyX3_ok nmX3 hown hK.1 hP hD hS 0 rfl rfl 5 (by decide) (hts (.fieldLink RX3 51 "CompassBiasModel" "sy" "J") (List.mem_of_getElem? (i := 3) rfl)) (fun _ h9 => h9) rfl (by decide +kernel) rfl rfl (Nat.le_of_ble_eq_true rfl) dX3_sumOne_35 (fun H locs hP hD hS => ?_)
  have hP : va_P D classes [(h0, .inr (3, mdv ast aim akt (md.1 + 1, md.2.1 + p0.toInt64, md.2.2.1 + p1.toInt64, md.2.2.2.1, md.2.2.2.2.1, md.2.2.2.2.2.1, md.2.2.2.2.2.2.1, md.2.2.2.2.2.2.2.1, md.2.2.2.2.2.2.2.2.1, md.2.2.2.2.2.2.2.2.2.1, md.2.2.2.2.2.2.2.2.2.2.1, md.2.2.2.2.2.2.2.2.2.2.2.1, md.2.2.2.2.2.2.2.2.2.2.2.2)))] H := hP
  have hD : va_D A [(h0, .inr (3, mdv ast aim akt (md.1 + 1, md.2.1 + p0.toInt64, md.2.2.1 + p1.toInt64, md.2.2.2.1, md.2.2.2.2.1, md.2.2.2.2.2.1, md.2.2.2.2.2.2.1, md.2.2.2.2.2.2.2.1, md.2.2.2.2.2.2.2.2.1, md.2.2.2.2.2.2.2.2.2.1, md.2.2.2.2.2.2.2.2.2.2.1, md.2.2.2.2.2.2.2.2.2.2.2.1, md.2.2.2.2.2.2.2.2.2.2.2.2)))] := hD
  refine lv_aload_n hx hb dX3_sumOne_38 rfl (lv_at hl 1 rfl) ?_
  refine lv_dup hx hb dX3_sumOne_39 rfl ?_
  refine va_get (D := D) (ci := 3) (v := .long md.2.2.2.1) (C := RX3) (T := TX3) (N := 16) hx hb hts iX3_sumOne_X3 hown hK.1 hP 0 rfl rfl 6 (by decide) (hts (.fieldLink RX3 54 "CompassBiasModel" "sxx" "J") (List.mem_of_getElem? (i := 4) rfl)) (fun _ h9 => h9) rfl dX3_sumOne_40 ?_
  refine lv_iload_n hx hb dX3_sumOne_43 rfl (lv_at hl 2 rfl) ?_
  refine lv_iload_n hx hb dX3_sumOne_44 rfl (lv_at hl 2 rfl) ?_
  refine lv_imul hx hb dX3_sumOne_45 ?_
  refine lv_i2l (v := (p0 * p0).toInt64) hx hb dX3_sumOne_46 rfl ?_
  refine lv_ladd hx hb dX3_sumOne_47 ?_
  refine va_put (D := D) (ci := 3) (v := .long (md.2.2.2.1 + ((p0 * p0).toInt64))) (ty := .long) (C := RX3) (T := TX3) (N := 16) hx hb hts iX3_sumOne_X3 tyX3 tyX3_ok nmX3 hown hK.1 hP hD hS 0 rfl rfl 6 (by decide) (hts (.fieldLink RX3 54 "CompassBiasModel" "sxx" "J") (List.mem_of_getElem? (i := 4) rfl)) (fun _ h9 => h9) rfl (by decide +kernel) rfl rfl (Nat.le_of_ble_eq_true rfl) dX3_sumOne_48 (fun H locs hP hD hS => ?_)
  have hP : va_P D classes [(h0, .inr (3, mdv ast aim akt (md.1 + 1, md.2.1 + p0.toInt64, md.2.2.1 + p1.toInt64, md.2.2.2.1 + ((p0 * p0).toInt64), md.2.2.2.2.1, md.2.2.2.2.2.1, md.2.2.2.2.2.2.1, md.2.2.2.2.2.2.2.1, md.2.2.2.2.2.2.2.2.1, md.2.2.2.2.2.2.2.2.2.1, md.2.2.2.2.2.2.2.2.2.2.1, md.2.2.2.2.2.2.2.2.2.2.2.1, md.2.2.2.2.2.2.2.2.2.2.2.2)))] H := hP
  have hD : va_D A [(h0, .inr (3, mdv ast aim akt (md.1 + 1, md.2.1 + p0.toInt64, md.2.2.1 + p1.toInt64, md.2.2.2.1 + ((p0 * p0).toInt64), md.2.2.2.2.1, md.2.2.2.2.2.1, md.2.2.2.2.2.2.1, md.2.2.2.2.2.2.2.1, md.2.2.2.2.2.2.2.2.1, md.2.2.2.2.2.2.2.2.2.1, md.2.2.2.2.2.2.2.2.2.2.1, md.2.2.2.2.2.2.2.2.2.2.2.1, md.2.2.2.2.2.2.2.2.2.2.2.2)))] := hD
  refine lv_aload_n hx hb dX3_sumOne_51 rfl (lv_at hl 1 rfl) ?_
  refine lv_dup hx hb dX3_sumOne_52 rfl ?_
  refine va_get (D := D) (ci := 3) (v := .long md.2.2.2.2.1) (C := RX3) (T := TX3) (N := 16) hx hb hts iX3_sumOne_X3 hown hK.1 hP 0 rfl rfl 7 (by decide) (hts (.fieldLink RX3 57 "CompassBiasModel" "sxy" "J") (List.mem_of_getElem? (i := 5) rfl)) (fun _ h9 => h9) rfl dX3_sumOne_53 ?_
  refine lv_iload_n hx hb dX3_sumOne_56 rfl (lv_at hl 2 rfl) ?_
  refine lv_iload_n hx hb dX3_sumOne_57 rfl (lv_at hl 3 rfl) ?_
  refine lv_imul hx hb dX3_sumOne_58 ?_
  refine lv_i2l (v := (p0 * p1).toInt64) hx hb dX3_sumOne_59 rfl ?_
  refine lv_ladd hx hb dX3_sumOne_60 ?_
  refine va_put (D := D) (ci := 3) (v := .long (md.2.2.2.2.1 + ((p0 * p1).toInt64))) (ty := .long) (C := RX3) (T := TX3) (N := 16) hx hb hts iX3_sumOne_X3 tyX3 tyX3_ok nmX3 hown hK.1 hP hD hS 0 rfl rfl 7 (by decide) (hts (.fieldLink RX3 57 "CompassBiasModel" "sxy" "J") (List.mem_of_getElem? (i := 5) rfl)) (fun _ h9 => h9) rfl (by decide +kernel) rfl rfl (Nat.le_of_ble_eq_true rfl) dX3_sumOne_61 (fun H locs hP hD hS => ?_)
  have hP : va_P D classes [(h0, .inr (3, mdv ast aim akt (md.1 + 1, md.2.1 + p0.toInt64, md.2.2.1 + p1.toInt64, md.2.2.2.1 + ((p0 * p0).toInt64), md.2.2.2.2.1 + ((p0 * p1).toInt64), md.2.2.2.2.2.1, md.2.2.2.2.2.2.1, md.2.2.2.2.2.2.2.1, md.2.2.2.2.2.2.2.2.1, md.2.2.2.2.2.2.2.2.2.1, md.2.2.2.2.2.2.2.2.2.2.1, md.2.2.2.2.2.2.2.2.2.2.2.1, md.2.2.2.2.2.2.2.2.2.2.2.2)))] H := hP
  have hD : va_D A [(h0, .inr (3, mdv ast aim akt (md.1 + 1, md.2.1 + p0.toInt64, md.2.2.1 + p1.toInt64, md.2.2.2.1 + ((p0 * p0).toInt64), md.2.2.2.2.1 + ((p0 * p1).toInt64), md.2.2.2.2.2.1, md.2.2.2.2.2.2.1, md.2.2.2.2.2.2.2.1, md.2.2.2.2.2.2.2.2.1, md.2.2.2.2.2.2.2.2.2.1, md.2.2.2.2.2.2.2.2.2.2.1, md.2.2.2.2.2.2.2.2.2.2.2.1, md.2.2.2.2.2.2.2.2.2.2.2.2)))] := hD
  refine lv_aload_n hx hb dX3_sumOne_64 rfl (lv_at hl 1 rfl) ?_
  refine lv_dup hx hb dX3_sumOne_65 rfl ?_
  refine va_get (D := D) (ci := 3) (v := .long md.2.2.2.2.2.1) (C := RX3) (T := TX3) (N := 16) hx hb hts iX3_sumOne_X3 hown hK.1 hP 0 rfl rfl 8 (by decide) (hts (.fieldLink RX3 60 "CompassBiasModel" "syy" "J") (List.mem_of_getElem? (i := 6) rfl)) (fun _ h9 => h9) rfl dX3_sumOne_66 ?_
  refine lv_iload_n hx hb dX3_sumOne_69 rfl (lv_at hl 3 rfl) ?_
  refine lv_iload_n hx hb dX3_sumOne_70 rfl (lv_at hl 3 rfl) ?_
  refine lv_imul hx hb dX3_sumOne_71 ?_
  refine lv_i2l (v := (p1 * p1).toInt64) hx hb dX3_sumOne_72 rfl ?_
  refine lv_ladd hx hb dX3_sumOne_73 ?_
  refine va_put (D := D) (ci := 3) (v := .long (md.2.2.2.2.2.1 + ((p1 * p1).toInt64))) (ty := .long) (C := RX3) (T := TX3) (N := 16) hx hb hts iX3_sumOne_X3 tyX3 tyX3_ok nmX3 hown hK.1 hP hD hS 0 rfl rfl 8 (by decide) (hts (.fieldLink RX3 60 "CompassBiasModel" "syy" "J") (List.mem_of_getElem? (i := 6) rfl)) (fun _ h9 => h9) rfl (by decide +kernel) rfl rfl (Nat.le_of_ble_eq_true rfl) dX3_sumOne_74 (fun H locs hP hD hS => ?_)
  have hP : va_P D classes [(h0, .inr (3, mdv ast aim akt (md.1 + 1, md.2.1 + p0.toInt64, md.2.2.1 + p1.toInt64, md.2.2.2.1 + ((p0 * p0).toInt64), md.2.2.2.2.1 + ((p0 * p1).toInt64), md.2.2.2.2.2.1 + ((p1 * p1).toInt64), md.2.2.2.2.2.2.1, md.2.2.2.2.2.2.2.1, md.2.2.2.2.2.2.2.2.1, md.2.2.2.2.2.2.2.2.2.1, md.2.2.2.2.2.2.2.2.2.2.1, md.2.2.2.2.2.2.2.2.2.2.2.1, md.2.2.2.2.2.2.2.2.2.2.2.2)))] H := hP
  have hD : va_D A [(h0, .inr (3, mdv ast aim akt (md.1 + 1, md.2.1 + p0.toInt64, md.2.2.1 + p1.toInt64, md.2.2.2.1 + ((p0 * p0).toInt64), md.2.2.2.2.1 + ((p0 * p1).toInt64), md.2.2.2.2.2.1 + ((p1 * p1).toInt64), md.2.2.2.2.2.2.1, md.2.2.2.2.2.2.2.1, md.2.2.2.2.2.2.2.2.1, md.2.2.2.2.2.2.2.2.2.1, md.2.2.2.2.2.2.2.2.2.2.1, md.2.2.2.2.2.2.2.2.2.2.2.1, md.2.2.2.2.2.2.2.2.2.2.2.2)))] := hD
  refine lv_aload_n hx hb dX3_sumOne_77 rfl (lv_at hl 1 rfl) ?_
  refine lv_dup hx hb dX3_sumOne_78 rfl ?_
  refine va_get (D := D) (ci := 3) (v := .long md.2.2.2.2.2.2.1) (C := RX3) (T := TX3) (N := 16) hx hb hts iX3_sumOne_X3 hown hK.1 hP 0 rfl rfl 9 (by decide) (hts (.fieldLink RX3 63 "CompassBiasModel" "sp" "J") (List.mem_of_getElem? (i := 7) rfl)) (fun _ h9 => h9) rfl dX3_sumOne_79 ?_
  refine lv_iload_n hx hb dX3_sumOne_82 rfl (lv_at hl 0 rfl) ?_
  refine lv_i2l (v := (F_X3_power p0 p1).toInt64) hx hb dX3_sumOne_83 rfl ?_
  refine lv_ladd hx hb dX3_sumOne_84 ?_
  refine va_put (D := D) (ci := 3) (v := .long (md.2.2.2.2.2.2.1 + ((F_X3_power p0 p1).toInt64))) (ty := .long) (C := RX3) (T := TX3) (N := 16) hx hb hts iX3_sumOne_X3 tyX3 tyX3_ok nmX3 hown hK.1 hP hD hS 0 rfl rfl 9 (by decide) (hts (.fieldLink RX3 63 "CompassBiasModel" "sp" "J") (List.mem_of_getElem? (i := 7) rfl)) (fun _ h9 => h9) rfl (by decide +kernel) rfl rfl (Nat.le_of_ble_eq_true rfl) dX3_sumOne_85 (fun H locs hP hD hS => ?_)
  have hP : va_P D classes [(h0, .inr (3, mdv ast aim akt (md.1 + 1, md.2.1 + p0.toInt64, md.2.2.1 + p1.toInt64, md.2.2.2.1 + ((p0 * p0).toInt64), md.2.2.2.2.1 + ((p0 * p1).toInt64), md.2.2.2.2.2.1 + ((p1 * p1).toInt64), md.2.2.2.2.2.2.1 + ((F_X3_power p0 p1).toInt64), md.2.2.2.2.2.2.2.1, md.2.2.2.2.2.2.2.2.1, md.2.2.2.2.2.2.2.2.2.1, md.2.2.2.2.2.2.2.2.2.2.1, md.2.2.2.2.2.2.2.2.2.2.2.1, md.2.2.2.2.2.2.2.2.2.2.2.2)))] H := hP
  have hD : va_D A [(h0, .inr (3, mdv ast aim akt (md.1 + 1, md.2.1 + p0.toInt64, md.2.2.1 + p1.toInt64, md.2.2.2.1 + ((p0 * p0).toInt64), md.2.2.2.2.1 + ((p0 * p1).toInt64), md.2.2.2.2.2.1 + ((p1 * p1).toInt64), md.2.2.2.2.2.2.1 + ((F_X3_power p0 p1).toInt64), md.2.2.2.2.2.2.2.1, md.2.2.2.2.2.2.2.2.1, md.2.2.2.2.2.2.2.2.2.1, md.2.2.2.2.2.2.2.2.2.2.1, md.2.2.2.2.2.2.2.2.2.2.2.1, md.2.2.2.2.2.2.2.2.2.2.2.2)))] := hD
  refine lv_aload_n hx hb dX3_sumOne_88 rfl (lv_at hl 1 rfl) ?_
  refine lv_dup hx hb dX3_sumOne_89 rfl ?_
  refine va_get (D := D) (ci := 3) (v := .long md.2.2.2.2.2.2.2.1) (C := RX3) (T := TX3) (N := 16) hx hb hts iX3_sumOne_X3 hown hK.1 hP 0 rfl rfl 10 (by decide) (hts (.fieldLink RX3 66 "CompassBiasModel" "spx" "J") (List.mem_of_getElem? (i := 8) rfl)) (fun _ h9 => h9) rfl dX3_sumOne_90 ?_
  refine lv_iload_n hx hb dX3_sumOne_93 rfl (lv_at hl 0 rfl) ?_
  refine lv_iload_n hx hb dX3_sumOne_94 rfl (lv_at hl 2 rfl) ?_
  refine lv_imul hx hb dX3_sumOne_95 ?_
  refine lv_i2l (v := ((F_X3_power p0 p1) * p0).toInt64) hx hb dX3_sumOne_96 rfl ?_
  refine lv_ladd hx hb dX3_sumOne_97 ?_
  refine va_put (D := D) (ci := 3) (v := .long (md.2.2.2.2.2.2.2.1 + (((F_X3_power p0 p1) * p0).toInt64))) (ty := .long) (C := RX3) (T := TX3) (N := 16) hx hb hts iX3_sumOne_X3 tyX3 tyX3_ok nmX3 hown hK.1 hP hD hS 0 rfl rfl 10 (by decide) (hts (.fieldLink RX3 66 "CompassBiasModel" "spx" "J") (List.mem_of_getElem? (i := 8) rfl)) (fun _ h9 => h9) rfl (by decide +kernel) rfl rfl (Nat.le_of_ble_eq_true rfl) dX3_sumOne_98 (fun H locs hP hD hS => ?_)
  have hP : va_P D classes [(h0, .inr (3, mdv ast aim akt (md.1 + 1, md.2.1 + p0.toInt64, md.2.2.1 + p1.toInt64, md.2.2.2.1 + ((p0 * p0).toInt64), md.2.2.2.2.1 + ((p0 * p1).toInt64), md.2.2.2.2.2.1 + ((p1 * p1).toInt64), md.2.2.2.2.2.2.1 + ((F_X3_power p0 p1).toInt64), md.2.2.2.2.2.2.2.1 + (((F_X3_power p0 p1) * p0).toInt64), md.2.2.2.2.2.2.2.2.1, md.2.2.2.2.2.2.2.2.2.1, md.2.2.2.2.2.2.2.2.2.2.1, md.2.2.2.2.2.2.2.2.2.2.2.1, md.2.2.2.2.2.2.2.2.2.2.2.2)))] H := hP
  have hD : va_D A [(h0, .inr (3, mdv ast aim akt (md.1 + 1, md.2.1 + p0.toInt64, md.2.2.1 + p1.toInt64, md.2.2.2.1 + ((p0 * p0).toInt64), md.2.2.2.2.1 + ((p0 * p1).toInt64), md.2.2.2.2.2.1 + ((p1 * p1).toInt64), md.2.2.2.2.2.2.1 + ((F_X3_power p0 p1).toInt64), md.2.2.2.2.2.2.2.1 + (((F_X3_power p0 p1) * p0).toInt64), md.2.2.2.2.2.2.2.2.1, md.2.2.2.2.2.2.2.2.2.1, md.2.2.2.2.2.2.2.2.2.2.1, md.2.2.2.2.2.2.2.2.2.2.2.1, md.2.2.2.2.2.2.2.2.2.2.2.2)))] := hD
  refine lv_aload_n hx hb dX3_sumOne_101 rfl (lv_at hl 1 rfl) ?_
  refine lv_dup hx hb dX3_sumOne_102 rfl ?_
  refine va_get (D := D) (ci := 3) (v := .long md.2.2.2.2.2.2.2.2.1) (C := RX3) (T := TX3) (N := 16) hx hb hts iX3_sumOne_X3 hown hK.1 hP 0 rfl rfl 11 (by decide) (hts (.fieldLink RX3 69 "CompassBiasModel" "spy" "J") (List.mem_of_getElem? (i := 9) rfl)) (fun _ h9 => h9) rfl dX3_sumOne_103 ?_
  refine lv_iload_n hx hb dX3_sumOne_106 rfl (lv_at hl 0 rfl) ?_
  refine lv_iload_n hx hb dX3_sumOne_107 rfl (lv_at hl 3 rfl) ?_
  refine lv_imul hx hb dX3_sumOne_108 ?_
  refine lv_i2l (v := ((F_X3_power p0 p1) * p1).toInt64) hx hb dX3_sumOne_109 rfl ?_
  refine lv_ladd hx hb dX3_sumOne_110 ?_
  refine va_put (D := D) (ci := 3) (v := .long (md.2.2.2.2.2.2.2.2.1 + (((F_X3_power p0 p1) * p1).toInt64))) (ty := .long) (C := RX3) (T := TX3) (N := 16) hx hb hts iX3_sumOne_X3 tyX3 tyX3_ok nmX3 hown hK.1 hP hD hS 0 rfl rfl 11 (by decide) (hts (.fieldLink RX3 69 "CompassBiasModel" "spy" "J") (List.mem_of_getElem? (i := 9) rfl)) (fun _ h9 => h9) rfl (by decide +kernel) rfl rfl (Nat.le_of_ble_eq_true rfl) dX3_sumOne_111 (fun H locs hP hD hS => ?_)
  have hP : va_P D classes [(h0, .inr (3, mdv ast aim akt (md.1 + 1, md.2.1 + p0.toInt64, md.2.2.1 + p1.toInt64, md.2.2.2.1 + ((p0 * p0).toInt64), md.2.2.2.2.1 + ((p0 * p1).toInt64), md.2.2.2.2.2.1 + ((p1 * p1).toInt64), md.2.2.2.2.2.2.1 + ((F_X3_power p0 p1).toInt64), md.2.2.2.2.2.2.2.1 + (((F_X3_power p0 p1) * p0).toInt64), md.2.2.2.2.2.2.2.2.1 + (((F_X3_power p0 p1) * p1).toInt64), md.2.2.2.2.2.2.2.2.2.1, md.2.2.2.2.2.2.2.2.2.2.1, md.2.2.2.2.2.2.2.2.2.2.2.1, md.2.2.2.2.2.2.2.2.2.2.2.2)))] H := hP
  have hD : va_D A [(h0, .inr (3, mdv ast aim akt (md.1 + 1, md.2.1 + p0.toInt64, md.2.2.1 + p1.toInt64, md.2.2.2.1 + ((p0 * p0).toInt64), md.2.2.2.2.1 + ((p0 * p1).toInt64), md.2.2.2.2.2.1 + ((p1 * p1).toInt64), md.2.2.2.2.2.2.1 + ((F_X3_power p0 p1).toInt64), md.2.2.2.2.2.2.2.1 + (((F_X3_power p0 p1) * p0).toInt64), md.2.2.2.2.2.2.2.2.1 + (((F_X3_power p0 p1) * p1).toInt64), md.2.2.2.2.2.2.2.2.2.1, md.2.2.2.2.2.2.2.2.2.2.1, md.2.2.2.2.2.2.2.2.2.2.2.1, md.2.2.2.2.2.2.2.2.2.2.2.2)))] := hD
  exact ret_v C (md.1 + 1, md.2.1 + p0.toInt64, md.2.2.1 + p1.toInt64, md.2.2.2.1 + ((p0 * p0).toInt64), md.2.2.2.2.1 + ((p0 * p1).toInt64), md.2.2.2.2.2.1 + ((p1 * p1).toInt64), md.2.2.2.2.2.2.1 + ((F_X3_power p0 p1).toInt64), md.2.2.2.2.2.2.2.1 + (((F_X3_power p0 p1) * p0).toInt64), md.2.2.2.2.2.2.2.2.1 + (((F_X3_power p0 p1) * p1).toInt64), md.2.2.2.2.2.2.2.2.2.1, md.2.2.2.2.2.2.2.2.2.2.1, md.2.2.2.2.2.2.2.2.2.2.2.1, md.2.2.2.2.2.2.2.2.2.2.2.2) rfl hP hD hS dX3_sumOne_114
def L_X3_sumSet_47 (st : Nat → Int32) (p0 : Int32) : Nat → Int32 → Rd → Rd
  | 0, _, _ => (0, 0, 0, 0, 0, 0, 0, 0, 0, 0, 0, 0, 0)
  | n + 1, i, q => if (st 20) ≤ i then (q) else (if ((p0 >>> (i &&& 31)) &&& 1) = 1 then (L_X3_sumSet_47 st p0 n (i + 1) (F_X3_sumOne q (st (0 + i).toNatClampNeg) (st (10 + i).toNatClampNeg))) else (L_X3_sumSet_47 st p0 n (i + 1) q))
def F_X3_sumSet (st : Nat → Int32) (md : Rd) (p0 : Int32) : Rd := L_X3_sumSet_47 st p0 11 0 (0, 0, 0, 0, 0, 0, 0, 0, 0, md.2.2.2.2.2.2.2.2.2.1, md.2.2.2.2.2.2.2.2.2.2.1, md.2.2.2.2.2.2.2.2.2.2.2.1, md.2.2.2.2.2.2.2.2.2.2.2.2)
theorem iX3_sumSet_X3 : ∀ w ∈ u_ws RX3 TX3 16, w ∈ wsX3_sumSet := fun _ h => List.mem_cons_of_mem _ (List.mem_append_right _ (h))
set_option maxHeartbeats 4000000 in
set_option maxRecDepth 100000 in
theorem c_X3_sumSet (l : Launch) (D : va_G) (cI cZ : ClassId) (h0 ast aim akt : Nat) (st : Nat → Int32) (md : Rd) (p0 : Int32) (hm : MB st) : CTv l yX3_sumSet wsX3_sumSet ({ frames := 2, cells := 0, slots := 0, locals := 44 } : Room) D cI cZ [.ref h0, .int p0] [(h0, .inr (3, mdv ast aim akt md)), (ast, .inl (cI, 23, .inl st))] (S := Rd) (fun u9 => F_X3_sumSet st md p0 = u9) (fun u => [(h0, .inr (3, mdv ast aim akt u)), (ast, .inl (cI, 23, .inl st))]) := by
  refine enterM (cc := cX3_sumSet) (maxL := 3) (ret := none) (own := RX3) (Qc := fun A => va_Qv (S := Rd) (fun u9 => F_X3_sumSet st md p0 = u9) (PoB (S := Rd) D A (fun u => [(h0, .inr (3, mdv ast aim akt u)), (ast, .inl (cI, 23, .inl st))])) A) (by decide) rfl rfl (Nat.le_of_ble_eq_true rfl) ?_
  intro p e s m below meth c A ls C hK hA hP hD hS hl
  have hx := C.1
  have hb := C.2.1
  have hown := C.2.2.2.1
  have hts := C.2.2.2.2.1
  have _huse := hts
  have K47 : ∀ (n : Nat) (k : Nat) (i : Int32) (q : Rd) (_ : i.toInt = (k : Int)) (_ : k ≤ 10) (_ : 10 < k + n) (X : Rd) (_ : X = L_X3_sumSet_47 st p0 n i q) (H : Heap) (locs : List Loc) (_ : va_P D classes [(h0, .inr (3, mdv ast aim akt q)), (ast, .inl (cI, 23, .inl st))] H) (_ : va_D A [(h0, .inr (3, mdv ast aim akt q)), (ast, .inl (cI, 23, .inl st))]) (_ : va_S A s.heap H locs) (ls : Array Slot) (_ : lv_has ls 3 [(0, .ref h0), (1, .int p0), (2, .int i)]), W p l e ({ frames := 2, cells := 0, slots := 0, locals := 44 } : Room) s m [.ref h0, .int p0].toArray below meth c H locs 0 0 (MQ below (va_Qv (S := Rd) (fun u9 => X = u9) (PoB (S := Rd) D A (fun u => [(h0, .inr (3, mdv ast aim akt u)), (ast, .inl (cI, 23, .inl st))])) A) [.ref h0, .int p0].toArray s 0 0 A) (F0 m 47 ls []) := by
    intro n
    induction n with
    | zero =>
      intro k i q hi hk hfu X hX H locs hP hD hS ls hl
      exact absurd hfu (by omega)
    | succ n ih =>
      intro k i q hi hk hfu X hX H locs hP hD hS ls hl
      refine lv_iload_n hx hb dX3_sumSet_47 rfl (lv_at hl 2 rfl) ?_
      refine lv_aload_n hx hb dX3_sumSet_48 rfl (lv_at hl 0 rfl) ?_
      refine va_get (D := D) (ci := 3) (v := .ref ast) (C := RX3) (T := TX3) (N := 16) hx hb hts iX3_sumSet_X3 hown hK.1 hP 0 rfl rfl 0 (by decide) (hts (.fieldLink RX3 7 "CompassBiasModel" "state" "[I") (List.mem_of_getElem? (i := 10) rfl)) (fun _ h9 => h9) rfl dX3_sumSet_49 ?_
      refine lv_bipush (v := 20) hx hb dX3_sumSet_52 (by decide) ?_
      refine va_iald hx hb hK.1 hP 1 0 rfl rfl (vp_lit (by decide)) dX3_sumSet_54 ?_
      refine W.eq (g2 := F0 m 55 ls [.int (st 20), .int i]) rfl ?_
      refine lv_icmp_ge (tgt := 94) hx hb dX3_sumSet_55 (by decide) (fun c_55 => ?_) (fun c_55 => ?_)
      · exact ret_v C q (hX.trans ((if_pos c_55))) hP hD hS dX3_sumSet_94
      · refine lv_iload_n hx hb dX3_sumSet_58 rfl (lv_at hl 1 rfl) ?_
        refine lv_iload_n hx hb dX3_sumSet_59 rfl (lv_at hl 2 rfl) ?_
        refine lv_ishr hx hb dX3_sumSet_60 ?_
        refine lv_iconst (v := 1) hx hb dX3_sumSet_61 (by decide) ?_
        refine lv_iand hx hb dX3_sumSet_62 ?_
        refine lv_iconst (v := 1) hx hb dX3_sumSet_63 (by decide) ?_
        refine lv_icmp_ne (tgt := 88) hx hb dX3_sumSet_64 (by decide) (fun c_64 => ?_) (fun c_64 => ?_)
        · refine lv_iinc (v := i + 1) (lv' := [(2, .int (i + 1)), (0, .ref h0), (1, .int p0)]) hx hb dX3_sumSet_88 hl (k := 2) rfl rfl (by decide) rfl (fun ls hl => ?_)
          refine lv_goto (tgt := 47) hx hb dX3_sumSet_91 (by decide) ?_
          exact ih (k + 1) (i + 1) q (i_succ hi (by omega)) (i_ltM hm hi c_55) (by omega) X (hX.trans ((if_neg c_55).trans ((if_neg c_64)))) _ _ hP hD hS _ (lv_sub hl [1, 2, 0] rfl)
        · refine lv_aload_n hx hb dX3_sumSet_67 rfl (lv_at hl 0 rfl) ?_
          refine lv_aload_n hx hb dX3_sumSet_68 rfl (lv_at hl 0 rfl) ?_
          refine va_get (D := D) (ci := 3) (v := .ref ast) (C := RX3) (T := TX3) (N := 16) hx hb hts iX3_sumSet_X3 hown hK.1 hP 0 rfl rfl 0 (by decide) (hts (.fieldLink RX3 7 "CompassBiasModel" "state" "[I") (List.mem_of_getElem? (i := 10) rfl)) (fun _ h9 => h9) rfl dX3_sumSet_69 ?_
          refine lv_iconst (v := 0) hx hb dX3_sumSet_72 (by decide) ?_
          refine lv_iload_n hx hb dX3_sumSet_73 rfl (lv_at hl 2 rfl) ?_
          refine lv_iadd hx hb dX3_sumSet_74 ?_
          refine va_iald hx hb hK.1 hP 1 0 rfl rfl (vp_x hi (i_ltM hm hi c_55)) dX3_sumSet_75 ?_
          refine lv_aload_n hx hb dX3_sumSet_76 rfl (lv_at hl 0 rfl) ?_
          refine va_get (D := D) (ci := 3) (v := .ref ast) (C := RX3) (T := TX3) (N := 16) hx hb hts iX3_sumSet_X3 hown hK.1 hP 0 rfl rfl 0 (by decide) (hts (.fieldLink RX3 7 "CompassBiasModel" "state" "[I") (List.mem_of_getElem? (i := 10) rfl)) (fun _ h9 => h9) rfl dX3_sumSet_77 ?_
          refine lv_bipush (v := 10) hx hb dX3_sumSet_80 (by decide) ?_
          refine lv_iload_n hx hb dX3_sumSet_82 rfl (lv_at hl 2 rfl) ?_
          refine lv_iadd hx hb dX3_sumSet_83 ?_
          refine va_iald hx hb hK.1 hP 1 0 rfl rfl (vp_y hi (i_ltM hm hi c_55)) dX3_sumSet_84 ?_
          refine aft_v (wr := [(ast, .inl (cI, 23, .inl st))]) (run_V (As := [.int (st (0 + i).toNatClampNeg), .int (st (10 + i).toNatClampNeg)]) (rest := []) C (c_X3_sumOne l D cI cZ h0 ast aim akt q (st (0 + i).toNatClampNeg) (st (10 + i).toNatClampNeg)) (cwV 2 hts gX3_sumSet_X3_sumOne rfl rfl rfl (by decide +kernel) ⟨Nat.le_of_ble_eq_true rfl, Nat.le_of_ble_eq_true rfl⟩) hK (hP.sub (ws' := [(h0, .inr (3, mdv ast aim akt q))]) [0] rfl) (hD.sub (ws' := [(h0, .inr (3, mdv ast aim akt q))]) [0] (by decide) rfl) 0 3 rfl rfl rfl rfl hl.1 rfl (Nat.le_of_ble_eq_true rfl) dX3_sumSet_85 (Nat.zero_le _) (Nat.zero_le _)) hP hD hS hA [0] [1] rfl rfl (by decide) (by decide) (fun u9 H locs hw hP hD hS => ?_)
          subst hw
          have hP : va_P D classes [(ast, .inl (cI, 23, .inl st)), (h0, .inr (3, mdv ast aim akt (F_X3_sumOne q (st (0 + i).toNatClampNeg) (st (10 + i).toNatClampNeg))))] H := hP
          have hD : va_D A [(ast, .inl (cI, 23, .inl st)), (h0, .inr (3, mdv ast aim akt (F_X3_sumOne q (st (0 + i).toNatClampNeg) (st (10 + i).toNatClampNeg))))] := hD
          refine lv_iinc (v := i + 1) (lv' := [(2, .int (i + 1)), (0, .ref h0), (1, .int p0)]) hx hb dX3_sumSet_88 hl (k := 2) rfl rfl (by decide) rfl (fun ls hl => ?_)
          refine lv_goto (tgt := 47) hx hb dX3_sumSet_91 (by decide) ?_
          exact ih (k + 1) (i + 1) (F_X3_sumOne q (st (0 + i).toNatClampNeg) (st (10 + i).toNatClampNeg)) (i_succ hi (by omega)) (i_ltM hm hi c_55) (by omega) X (hX.trans ((if_neg c_55).trans ((if_pos c_64)))) _ _ (hP.sub (ws' := [(h0, .inr (3, mdv ast aim akt (F_X3_sumOne q (st (0 + i).toNatClampNeg) (st (10 + i).toNatClampNeg)))), (ast, .inl (cI, 23, .inl st))]) [1, 0] rfl) (hD.sub (ws' := [(h0, .inr (3, mdv ast aim akt (F_X3_sumOne q (st (0 + i).toNatClampNeg) (st (10 + i).toNatClampNeg)))), (ast, .inl (cI, 23, .inl st))]) [1, 0] (by decide) rfl) hS _ (lv_sub hl [1, 2, 0] rfl)
  have hl : lv_has ls 3 [(0, .ref h0), (1, .int p0)] := hl
  refine lv_aload_n hx hb dX3_sumSet_0 rfl (lv_at hl 0 rfl) ?_
  refine lv_lconst (v := 0) hx hb dX3_sumSet_1 (by decide) ?_
  refine va_put (D := D) (ci := 3) (v := .long 0) (ty := .long) (C := RX3) (T := TX3) (N := 16) hx hb hts iX3_sumSet_X3 tyX3 tyX3_ok nmX3 hown hK.1 hP hD hS 0 rfl rfl 3 (by decide) (hts (.fieldLink RX3 44 "CompassBiasModel" "n" "J") (List.mem_of_getElem? (i := 1) rfl)) (fun _ h9 => h9) rfl (by decide +kernel) rfl rfl (Nat.le_of_ble_eq_true rfl) dX3_sumSet_2 (fun H locs hP hD hS => ?_)
  have hP : va_P D classes [(h0, .inr (3, mdv ast aim akt (0, md.2.1, md.2.2.1, md.2.2.2.1, md.2.2.2.2.1, md.2.2.2.2.2.1, md.2.2.2.2.2.2.1, md.2.2.2.2.2.2.2.1, md.2.2.2.2.2.2.2.2.1, md.2.2.2.2.2.2.2.2.2.1, md.2.2.2.2.2.2.2.2.2.2.1, md.2.2.2.2.2.2.2.2.2.2.2.1, md.2.2.2.2.2.2.2.2.2.2.2.2))), (ast, .inl (cI, 23, .inl st))] H := hP
  have hD : va_D A [(h0, .inr (3, mdv ast aim akt (0, md.2.1, md.2.2.1, md.2.2.2.1, md.2.2.2.2.1, md.2.2.2.2.2.1, md.2.2.2.2.2.2.1, md.2.2.2.2.2.2.2.1, md.2.2.2.2.2.2.2.2.1, md.2.2.2.2.2.2.2.2.2.1, md.2.2.2.2.2.2.2.2.2.2.1, md.2.2.2.2.2.2.2.2.2.2.2.1, md.2.2.2.2.2.2.2.2.2.2.2.2))), (ast, .inl (cI, 23, .inl st))] := hD
  refine lv_aload_n hx hb dX3_sumSet_5 rfl (lv_at hl 0 rfl) ?_
  refine lv_lconst (v := 0) hx hb dX3_sumSet_6 (by decide) ?_
  refine va_put (D := D) (ci := 3) (v := .long 0) (ty := .long) (C := RX3) (T := TX3) (N := 16) hx hb hts iX3_sumSet_X3 tyX3 tyX3_ok nmX3 hown hK.1 hP hD hS 0 rfl rfl 4 (by decide) (hts (.fieldLink RX3 48 "CompassBiasModel" "sx" "J") (List.mem_of_getElem? (i := 2) rfl)) (fun _ h9 => h9) rfl (by decide +kernel) rfl rfl (Nat.le_of_ble_eq_true rfl) dX3_sumSet_7 (fun H locs hP hD hS => ?_)
  have hP : va_P D classes [(h0, .inr (3, mdv ast aim akt (0, 0, md.2.2.1, md.2.2.2.1, md.2.2.2.2.1, md.2.2.2.2.2.1, md.2.2.2.2.2.2.1, md.2.2.2.2.2.2.2.1, md.2.2.2.2.2.2.2.2.1, md.2.2.2.2.2.2.2.2.2.1, md.2.2.2.2.2.2.2.2.2.2.1, md.2.2.2.2.2.2.2.2.2.2.2.1, md.2.2.2.2.2.2.2.2.2.2.2.2))), (ast, .inl (cI, 23, .inl st))] H := hP
  have hD : va_D A [(h0, .inr (3, mdv ast aim akt (0, 0, md.2.2.1, md.2.2.2.1, md.2.2.2.2.1, md.2.2.2.2.2.1, md.2.2.2.2.2.2.1, md.2.2.2.2.2.2.2.1, md.2.2.2.2.2.2.2.2.1, md.2.2.2.2.2.2.2.2.2.1, md.2.2.2.2.2.2.2.2.2.2.1, md.2.2.2.2.2.2.2.2.2.2.2.1, md.2.2.2.2.2.2.2.2.2.2.2.2))), (ast, .inl (cI, 23, .inl st))] := hD
  refine lv_aload_n hx hb dX3_sumSet_10 rfl (lv_at hl 0 rfl) ?_
  refine lv_lconst (v := 0) hx hb dX3_sumSet_11 (by decide) ?_
  refine va_put (D := D) (ci := 3) (v := .long 0) (ty := .long) (C := RX3) (T := TX3) (N := 16) hx hb hts iX3_sumSet_X3 tyX3 tyX3_ok nmX3 hown hK.1 hP hD hS 0 rfl rfl 5 (by decide) (hts (.fieldLink RX3 51 "CompassBiasModel" "sy" "J") (List.mem_of_getElem? (i := 3) rfl)) (fun _ h9 => h9) rfl (by decide +kernel) rfl rfl (Nat.le_of_ble_eq_true rfl) dX3_sumSet_12 (fun H locs hP hD hS => ?_)
  have hP : va_P D classes [(h0, .inr (3, mdv ast aim akt (0, 0, 0, md.2.2.2.1, md.2.2.2.2.1, md.2.2.2.2.2.1, md.2.2.2.2.2.2.1, md.2.2.2.2.2.2.2.1, md.2.2.2.2.2.2.2.2.1, md.2.2.2.2.2.2.2.2.2.1, md.2.2.2.2.2.2.2.2.2.2.1, md.2.2.2.2.2.2.2.2.2.2.2.1, md.2.2.2.2.2.2.2.2.2.2.2.2))), (ast, .inl (cI, 23, .inl st))] H := hP
  have hD : va_D A [(h0, .inr (3, mdv ast aim akt (0, 0, 0, md.2.2.2.1, md.2.2.2.2.1, md.2.2.2.2.2.1, md.2.2.2.2.2.2.1, md.2.2.2.2.2.2.2.1, md.2.2.2.2.2.2.2.2.1, md.2.2.2.2.2.2.2.2.2.1, md.2.2.2.2.2.2.2.2.2.2.1, md.2.2.2.2.2.2.2.2.2.2.2.1, md.2.2.2.2.2.2.2.2.2.2.2.2))), (ast, .inl (cI, 23, .inl st))] := hD
  refine lv_aload_n hx hb dX3_sumSet_15 rfl (lv_at hl 0 rfl) ?_
  refine lv_lconst (v := 0) hx hb dX3_sumSet_16 (by decide) ?_
  refine va_put (D := D) (ci := 3) (v := .long 0) (ty := .long) (C := RX3) (T := TX3) (N := 16) hx hb hts iX3_sumSet_X3 tyX3 tyX3_ok nmX3 hown hK.1 hP hD hS 0 rfl rfl 6 (by decide) (hts (.fieldLink RX3 54 "CompassBiasModel" "sxx" "J") (List.mem_of_getElem? (i := 4) rfl)) (fun _ h9 => h9) rfl (by decide +kernel) rfl rfl (Nat.le_of_ble_eq_true rfl) dX3_sumSet_17 (fun H locs hP hD hS => ?_)
  have hP : va_P D classes [(h0, .inr (3, mdv ast aim akt (0, 0, 0, 0, md.2.2.2.2.1, md.2.2.2.2.2.1, md.2.2.2.2.2.2.1, md.2.2.2.2.2.2.2.1, md.2.2.2.2.2.2.2.2.1, md.2.2.2.2.2.2.2.2.2.1, md.2.2.2.2.2.2.2.2.2.2.1, md.2.2.2.2.2.2.2.2.2.2.2.1, md.2.2.2.2.2.2.2.2.2.2.2.2))), (ast, .inl (cI, 23, .inl st))] H := hP
  have hD : va_D A [(h0, .inr (3, mdv ast aim akt (0, 0, 0, 0, md.2.2.2.2.1, md.2.2.2.2.2.1, md.2.2.2.2.2.2.1, md.2.2.2.2.2.2.2.1, md.2.2.2.2.2.2.2.2.1, md.2.2.2.2.2.2.2.2.2.1, md.2.2.2.2.2.2.2.2.2.2.1, md.2.2.2.2.2.2.2.2.2.2.2.1, md.2.2.2.2.2.2.2.2.2.2.2.2))), (ast, .inl (cI, 23, .inl st))] := hD
  refine lv_aload_n hx hb dX3_sumSet_20 rfl (lv_at hl 0 rfl) ?_
  refine lv_lconst (v := 0) hx hb dX3_sumSet_21 (by decide) ?_
  refine va_put (D := D) (ci := 3) (v := .long 0) (ty := .long) (C := RX3) (T := TX3) (N := 16) hx hb hts iX3_sumSet_X3 tyX3 tyX3_ok nmX3 hown hK.1 hP hD hS 0 rfl rfl 7 (by decide) (hts (.fieldLink RX3 57 "CompassBiasModel" "sxy" "J") (List.mem_of_getElem? (i := 5) rfl)) (fun _ h9 => h9) rfl (by decide +kernel) rfl rfl (Nat.le_of_ble_eq_true rfl) dX3_sumSet_22 (fun H locs hP hD hS => ?_)
  have hP : va_P D classes [(h0, .inr (3, mdv ast aim akt (0, 0, 0, 0, 0, md.2.2.2.2.2.1, md.2.2.2.2.2.2.1, md.2.2.2.2.2.2.2.1, md.2.2.2.2.2.2.2.2.1, md.2.2.2.2.2.2.2.2.2.1, md.2.2.2.2.2.2.2.2.2.2.1, md.2.2.2.2.2.2.2.2.2.2.2.1, md.2.2.2.2.2.2.2.2.2.2.2.2))), (ast, .inl (cI, 23, .inl st))] H := hP
  have hD : va_D A [(h0, .inr (3, mdv ast aim akt (0, 0, 0, 0, 0, md.2.2.2.2.2.1, md.2.2.2.2.2.2.1, md.2.2.2.2.2.2.2.1, md.2.2.2.2.2.2.2.2.1, md.2.2.2.2.2.2.2.2.2.1, md.2.2.2.2.2.2.2.2.2.2.1, md.2.2.2.2.2.2.2.2.2.2.2.1, md.2.2.2.2.2.2.2.2.2.2.2.2))), (ast, .inl (cI, 23, .inl st))] := hD
  refine lv_aload_n hx hb dX3_sumSet_25 rfl (lv_at hl 0 rfl) ?_
  refine lv_lconst (v := 0) hx hb dX3_sumSet_26 (by decide) ?_
  refine va_put (D := D) (ci := 3) (v := .long 0) (ty := .long) (C := RX3) (T := TX3) (N := 16) hx hb hts iX3_sumSet_X3 tyX3 tyX3_ok nmX3 hown hK.1 hP hD hS 0 rfl rfl 8 (by decide) (hts (.fieldLink RX3 60 "CompassBiasModel" "syy" "J") (List.mem_of_getElem? (i := 6) rfl)) (fun _ h9 => h9) rfl (by decide +kernel) rfl rfl (Nat.le_of_ble_eq_true rfl) dX3_sumSet_27 (fun H locs hP hD hS => ?_)
  have hP : va_P D classes [(h0, .inr (3, mdv ast aim akt (0, 0, 0, 0, 0, 0, md.2.2.2.2.2.2.1, md.2.2.2.2.2.2.2.1, md.2.2.2.2.2.2.2.2.1, md.2.2.2.2.2.2.2.2.2.1, md.2.2.2.2.2.2.2.2.2.2.1, md.2.2.2.2.2.2.2.2.2.2.2.1, md.2.2.2.2.2.2.2.2.2.2.2.2))), (ast, .inl (cI, 23, .inl st))] H := hP
  have hD : va_D A [(h0, .inr (3, mdv ast aim akt (0, 0, 0, 0, 0, 0, md.2.2.2.2.2.2.1, md.2.2.2.2.2.2.2.1, md.2.2.2.2.2.2.2.2.1, md.2.2.2.2.2.2.2.2.2.1, md.2.2.2.2.2.2.2.2.2.2.1, md.2.2.2.2.2.2.2.2.2.2.2.1, md.2.2.2.2.2.2.2.2.2.2.2.2))), (ast, .inl (cI, 23, .inl st))] := hD
  refine lv_aload_n hx hb dX3_sumSet_30 rfl (lv_at hl 0 rfl) ?_
  refine lv_lconst (v := 0) hx hb dX3_sumSet_31 (by decide) ?_
  refine va_put (D := D) (ci := 3) (v := .long 0) (ty := .long) (C := RX3) (T := TX3) (N := 16) hx hb hts iX3_sumSet_X3 tyX3 tyX3_ok nmX3 hown hK.1 hP hD hS 0 rfl rfl 9 (by decide) (hts (.fieldLink RX3 63 "CompassBiasModel" "sp" "J") (List.mem_of_getElem? (i := 7) rfl)) (fun _ h9 => h9) rfl (by decide +kernel) rfl rfl (Nat.le_of_ble_eq_true rfl) dX3_sumSet_32 (fun H locs hP hD hS => ?_)
  have hP : va_P D classes [(h0, .inr (3, mdv ast aim akt (0, 0, 0, 0, 0, 0, 0, md.2.2.2.2.2.2.2.1, md.2.2.2.2.2.2.2.2.1, md.2.2.2.2.2.2.2.2.2.1, md.2.2.2.2.2.2.2.2.2.2.1, md.2.2.2.2.2.2.2.2.2.2.2.1, md.2.2.2.2.2.2.2.2.2.2.2.2))), (ast, .inl (cI, 23, .inl st))] H := hP
  have hD : va_D A [(h0, .inr (3, mdv ast aim akt (0, 0, 0, 0, 0, 0, 0, md.2.2.2.2.2.2.2.1, md.2.2.2.2.2.2.2.2.1, md.2.2.2.2.2.2.2.2.2.1, md.2.2.2.2.2.2.2.2.2.2.1, md.2.2.2.2.2.2.2.2.2.2.2.1, md.2.2.2.2.2.2.2.2.2.2.2.2))), (ast, .inl (cI, 23, .inl st))] := hD
  refine lv_aload_n hx hb dX3_sumSet_35 rfl (lv_at hl 0 rfl) ?_
  refine lv_lconst (v := 0) hx hb dX3_sumSet_36 (by decide) ?_
  refine va_put (D := D) (ci := 3) (v := .long 0) (ty := .long) (C := RX3) (T := TX3) (N := 16) hx hb hts iX3_sumSet_X3 tyX3 tyX3_ok nmX3 hown hK.1 hP hD hS 0 rfl rfl 10 (by decide) (hts (.fieldLink RX3 66 "CompassBiasModel" "spx" "J") (List.mem_of_getElem? (i := 8) rfl)) (fun _ h9 => h9) rfl (by decide +kernel) rfl rfl (Nat.le_of_ble_eq_true rfl) dX3_sumSet_37 (fun H locs hP hD hS => ?_)
  have hP : va_P D classes [(h0, .inr (3, mdv ast aim akt (0, 0, 0, 0, 0, 0, 0, 0, md.2.2.2.2.2.2.2.2.1, md.2.2.2.2.2.2.2.2.2.1, md.2.2.2.2.2.2.2.2.2.2.1, md.2.2.2.2.2.2.2.2.2.2.2.1, md.2.2.2.2.2.2.2.2.2.2.2.2))), (ast, .inl (cI, 23, .inl st))] H := hP
  have hD : va_D A [(h0, .inr (3, mdv ast aim akt (0, 0, 0, 0, 0, 0, 0, 0, md.2.2.2.2.2.2.2.2.1, md.2.2.2.2.2.2.2.2.2.1, md.2.2.2.2.2.2.2.2.2.2.1, md.2.2.2.2.2.2.2.2.2.2.2.1, md.2.2.2.2.2.2.2.2.2.2.2.2))), (ast, .inl (cI, 23, .inl st))] := hD
  refine lv_aload_n hx hb dX3_sumSet_40 rfl (lv_at hl 0 rfl) ?_
  refine lv_lconst (v := 0) hx hb dX3_sumSet_41 (by decide) ?_
  refine va_put (D := D) (ci := 3) (v := .long 0) (ty := .long) (C := RX3) (T := TX3) (N := 16) hx hb hts iX3_sumSet_X3 tyX3 tyX3_ok nmX3 hown hK.1 hP hD hS 0 rfl rfl 11 (by decide) (hts (.fieldLink RX3 69 "CompassBiasModel" "spy" "J") (List.mem_of_getElem? (i := 9) rfl)) (fun _ h9 => h9) rfl (by decide +kernel) rfl rfl (Nat.le_of_ble_eq_true rfl) dX3_sumSet_42 (fun H locs hP hD hS => ?_)
  have hP : va_P D classes [(h0, .inr (3, mdv ast aim akt (0, 0, 0, 0, 0, 0, 0, 0, 0, md.2.2.2.2.2.2.2.2.2.1, md.2.2.2.2.2.2.2.2.2.2.1, md.2.2.2.2.2.2.2.2.2.2.2.1, md.2.2.2.2.2.2.2.2.2.2.2.2))), (ast, .inl (cI, 23, .inl st))] H := hP
  have hD : va_D A [(h0, .inr (3, mdv ast aim akt (0, 0, 0, 0, 0, 0, 0, 0, 0, md.2.2.2.2.2.2.2.2.2.1, md.2.2.2.2.2.2.2.2.2.2.1, md.2.2.2.2.2.2.2.2.2.2.2.1, md.2.2.2.2.2.2.2.2.2.2.2.2))), (ast, .inl (cI, 23, .inl st))] := hD
  refine lv_iconst (v := 0) hx hb dX3_sumSet_45 (by decide) ?_
  refine lv_istore_n (lv' := [(2, .int 0), (0, .ref h0), (1, .int p0)]) hx hb dX3_sumSet_46 rfl hl (by decide) rfl (fun ls hl => ?_)
  exact K47 11 0 0 (0, 0, 0, 0, 0, 0, 0, 0, 0, md.2.2.2.2.2.2.2.2.2.1, md.2.2.2.2.2.2.2.2.2.2.1, md.2.2.2.2.2.2.2.2.2.2.2.1, md.2.2.2.2.2.2.2.2.2.2.2.2) rfl (by omega) (by omega) (F_X3_sumSet st md p0) rfl _ _ hP hD hS _ (lv_sub hl [1, 2, 0] rfl)
def F_X3_layRound (md : Rd) : Rd := (md.1, md.2.1, md.2.2.1, md.2.2.2.1, md.2.2.2.2.1, md.2.2.2.2.2.1, md.2.2.2.2.2.2.1, md.2.2.2.2.2.2.2.1, md.2.2.2.2.2.2.2.2.1, F_X3_det md.2.2.2.2.2.2.2.1 md.2.2.2.2.1 md.2.1 md.2.2.2.2.2.2.2.2.1 md.2.2.2.2.2.1 md.2.2.1 md.2.2.2.2.2.2.1 md.2.2.1 md.1, F_X3_det md.2.2.2.1 md.2.2.2.2.2.2.2.1 md.2.1 md.2.2.2.2.1 md.2.2.2.2.2.2.2.2.1 md.2.2.1 md.2.1 md.2.2.2.2.2.2.1 md.1, F_X3_det md.2.2.2.1 md.2.2.2.2.1 md.2.2.2.2.2.2.2.1 md.2.2.2.2.1 md.2.2.2.2.2.1 md.2.2.2.2.2.2.2.2.1 md.2.1 md.2.2.1 md.2.2.2.2.2.2.1, F_X3_det md.2.2.2.1 md.2.2.2.2.1 md.2.1 md.2.2.2.2.1 md.2.2.2.2.2.1 md.2.2.1 md.2.1 md.2.2.1 md.1)
theorem iX3_layRound_X3 : ∀ w ∈ u_ws RX3 TX3 16, w ∈ wsX3_layRound := fun _ h => List.mem_cons_of_mem _ (List.mem_append_right _ (h))
set_option maxHeartbeats 4000000 in
set_option maxRecDepth 100000 in
theorem c_X3_layRound (l : Launch) (D : va_G) (cI cZ : ClassId) (h0 ast aim akt : Nat) (md : Rd) : CTv l yX3_layRound wsX3_layRound ({ frames := 1, cells := 0, slots := 0, locals := 37 } : Room) D cI cZ [.ref h0] [(h0, .inr (3, mdv ast aim akt md))] (S := Rd) (fun u9 => F_X3_layRound md = u9) (fun u => [(h0, .inr (3, mdv ast aim akt u))]) := by
  refine enterM (cc := cX3_layRound) (maxL := 1) (ret := none) (own := RX3) (Qc := fun A => va_Qv (S := Rd) (fun u9 => F_X3_layRound md = u9) (PoB (S := Rd) D A (fun u => [(h0, .inr (3, mdv ast aim akt u))])) A) (by decide) rfl rfl (Nat.le_of_ble_eq_true rfl) ?_
  intro p e s m below meth c A ls C hK hA hP hD hS hl
  have hx := C.1
  have hb := C.2.1
  have hown := C.2.2.2.1
  have hts := C.2.2.2.2.1
  have _huse := hts
  have hl : lv_has ls 1 [(0, .ref h0)] := hl
  refine lv_aload_n hx hb dX3_layRound_0 rfl (lv_at hl 0 rfl) ?_
  refine lv_aload_n hx hb dX3_layRound_1 rfl (lv_at hl 0 rfl) ?_
  refine va_get (D := D) (ci := 3) (v := .long md.2.2.2.1) (C := RX3) (T := TX3) (N := 16) hx hb hts iX3_layRound_X3 hown hK.1 hP 0 rfl rfl 6 (by decide) (hts (.fieldLink RX3 54 "CompassBiasModel" "sxx" "J") (List.mem_of_getElem? (i := 1) rfl)) (fun _ h9 => h9) rfl dX3_layRound_2 ?_
  refine lv_aload_n hx hb dX3_layRound_5 rfl (lv_at hl 0 rfl) ?_
  refine va_get (D := D) (ci := 3) (v := .long md.2.2.2.2.1) (C := RX3) (T := TX3) (N := 16) hx hb hts iX3_layRound_X3 hown hK.1 hP 0 rfl rfl 7 (by decide) (hts (.fieldLink RX3 57 "CompassBiasModel" "sxy" "J") (List.mem_of_getElem? (i := 2) rfl)) (fun _ h9 => h9) rfl dX3_layRound_6 ?_
  refine lv_aload_n hx hb dX3_layRound_9 rfl (lv_at hl 0 rfl) ?_
  refine va_get (D := D) (ci := 3) (v := .long md.2.1) (C := RX3) (T := TX3) (N := 16) hx hb hts iX3_layRound_X3 hown hK.1 hP 0 rfl rfl 4 (by decide) (hts (.fieldLink RX3 48 "CompassBiasModel" "sx" "J") (List.mem_of_getElem? (i := 3) rfl)) (fun _ h9 => h9) rfl dX3_layRound_10 ?_
  refine lv_aload_n hx hb dX3_layRound_13 rfl (lv_at hl 0 rfl) ?_
  refine va_get (D := D) (ci := 3) (v := .long md.2.2.2.2.1) (C := RX3) (T := TX3) (N := 16) hx hb hts iX3_layRound_X3 hown hK.1 hP 0 rfl rfl 7 (by decide) (hts (.fieldLink RX3 57 "CompassBiasModel" "sxy" "J") (List.mem_of_getElem? (i := 2) rfl)) (fun _ h9 => h9) rfl dX3_layRound_14 ?_
  refine lv_aload_n hx hb dX3_layRound_17 rfl (lv_at hl 0 rfl) ?_
  refine va_get (D := D) (ci := 3) (v := .long md.2.2.2.2.2.1) (C := RX3) (T := TX3) (N := 16) hx hb hts iX3_layRound_X3 hown hK.1 hP 0 rfl rfl 8 (by decide) (hts (.fieldLink RX3 60 "CompassBiasModel" "syy" "J") (List.mem_of_getElem? (i := 4) rfl)) (fun _ h9 => h9) rfl dX3_layRound_18 ?_
  refine lv_aload_n hx hb dX3_layRound_21 rfl (lv_at hl 0 rfl) ?_
  refine va_get (D := D) (ci := 3) (v := .long md.2.2.1) (C := RX3) (T := TX3) (N := 16) hx hb hts iX3_layRound_X3 hown hK.1 hP 0 rfl rfl 5 (by decide) (hts (.fieldLink RX3 51 "CompassBiasModel" "sy" "J") (List.mem_of_getElem? (i := 5) rfl)) (fun _ h9 => h9) rfl dX3_layRound_22 ?_
  refine lv_aload_n hx hb dX3_layRound_25 rfl (lv_at hl 0 rfl) ?_
  refine va_get (D := D) (ci := 3) (v := .long md.2.1) (C := RX3) (T := TX3) (N := 16) hx hb hts iX3_layRound_X3 hown hK.1 hP 0 rfl rfl 4 (by decide) (hts (.fieldLink RX3 48 "CompassBiasModel" "sx" "J") (List.mem_of_getElem? (i := 3) rfl)) (fun _ h9 => h9) rfl dX3_layRound_26 ?_
  refine lv_aload_n hx hb dX3_layRound_29 rfl (lv_at hl 0 rfl) ?_
  refine va_get (D := D) (ci := 3) (v := .long md.2.2.1) (C := RX3) (T := TX3) (N := 16) hx hb hts iX3_layRound_X3 hown hK.1 hP 0 rfl rfl 5 (by decide) (hts (.fieldLink RX3 51 "CompassBiasModel" "sy" "J") (List.mem_of_getElem? (i := 5) rfl)) (fun _ h9 => h9) rfl dX3_layRound_30 ?_
  refine lv_aload_n hx hb dX3_layRound_33 rfl (lv_at hl 0 rfl) ?_
  refine va_get (D := D) (ci := 3) (v := .long md.1) (C := RX3) (T := TX3) (N := 16) hx hb hts iX3_layRound_X3 hown hK.1 hP 0 rfl rfl 3 (by decide) (hts (.fieldLink RX3 44 "CompassBiasModel" "n" "J") (List.mem_of_getElem? (i := 6) rfl)) (fun _ h9 => h9) rfl dX3_layRound_34 ?_
  refine aft_l (wr := [(h0, .inr (3, mdv ast aim akt md))]) (run_S (As := [.long md.2.2.2.1, .long md.2.2.2.2.1, .long md.2.1, .long md.2.2.2.2.1, .long md.2.2.2.2.2.1, .long md.2.2.1, .long md.2.1, .long md.2.2.1, .long md.1]) (rest := [.ref h0]) C (c_X3_det l D cI cZ md.2.2.2.1 md.2.2.2.2.1 md.2.1 md.2.2.2.2.1 md.2.2.2.2.2.1 md.2.2.1 md.2.1 md.2.2.1 md.1) (va_cwS 9 hts gX3_layRound_X3_det rfl rfl rfl (by decide +kernel) ⟨Nat.le_of_ble_eq_true rfl, Nat.le_of_ble_eq_true rfl⟩) hK (hP.sub (ws' := []) [] rfl) (hD.sub (ws' := []) [] (by decide) rfl) rfl hl.1 rfl (Nat.le_of_ble_eq_true rfl) dX3_layRound_37 (Nat.zero_le _) (Nat.zero_le _)) hP hD hS hA [] [0] rfl rfl (by decide) (by decide) (fun z9 u9 H locs hw hP hD hS => ?_)
  subst hw
  have hP : va_P D classes [(h0, .inr (3, mdv ast aim akt md))] H := hP
  have hD : va_D A [(h0, .inr (3, mdv ast aim akt md))] := hD
  refine va_put (D := D) (ci := 3) (v := .long (F_X3_det md.2.2.2.1 md.2.2.2.2.1 md.2.1 md.2.2.2.2.1 md.2.2.2.2.2.1 md.2.2.1 md.2.1 md.2.2.1 md.1)) (ty := .long) (C := RX3) (T := TX3) (N := 16) hx hb hts iX3_layRound_X3 tyX3 tyX3_ok nmX3 hown hK.1 hP hD hS 0 rfl rfl 15 (by decide) (hts (.fieldLink RX3 80 "CompassBiasModel" "by" "J") (List.mem_of_getElem? (i := 7) rfl)) (fun _ h9 => h9) rfl (by decide +kernel) rfl rfl (Nat.le_of_ble_eq_true rfl) dX3_layRound_40 (fun H locs hP hD hS => ?_)
  have hP : va_P D classes [(h0, .inr (3, mdv ast aim akt (md.1, md.2.1, md.2.2.1, md.2.2.2.1, md.2.2.2.2.1, md.2.2.2.2.2.1, md.2.2.2.2.2.2.1, md.2.2.2.2.2.2.2.1, md.2.2.2.2.2.2.2.2.1, md.2.2.2.2.2.2.2.2.2.1, md.2.2.2.2.2.2.2.2.2.2.1, md.2.2.2.2.2.2.2.2.2.2.2.1, F_X3_det md.2.2.2.1 md.2.2.2.2.1 md.2.1 md.2.2.2.2.1 md.2.2.2.2.2.1 md.2.2.1 md.2.1 md.2.2.1 md.1)))] H := hP
  have hD : va_D A [(h0, .inr (3, mdv ast aim akt (md.1, md.2.1, md.2.2.1, md.2.2.2.1, md.2.2.2.2.1, md.2.2.2.2.2.1, md.2.2.2.2.2.2.1, md.2.2.2.2.2.2.2.1, md.2.2.2.2.2.2.2.2.1, md.2.2.2.2.2.2.2.2.2.1, md.2.2.2.2.2.2.2.2.2.2.1, md.2.2.2.2.2.2.2.2.2.2.2.1, F_X3_det md.2.2.2.1 md.2.2.2.2.1 md.2.1 md.2.2.2.2.1 md.2.2.2.2.2.1 md.2.2.1 md.2.1 md.2.2.1 md.1)))] := hD
  refine lv_aload_n hx hb dX3_layRound_43 rfl (lv_at hl 0 rfl) ?_
  refine lv_aload_n hx hb dX3_layRound_44 rfl (lv_at hl 0 rfl) ?_
  refine va_get (D := D) (ci := 3) (v := .long md.2.2.2.2.2.2.2.1) (C := RX3) (T := TX3) (N := 16) hx hb hts iX3_layRound_X3 hown hK.1 hP 0 rfl rfl 10 (by decide) (hts (.fieldLink RX3 66 "CompassBiasModel" "spx" "J") (List.mem_of_getElem? (i := 8) rfl)) (fun _ h9 => h9) rfl dX3_layRound_45 ?_
  refine lv_aload_n hx hb dX3_layRound_48 rfl (lv_at hl 0 rfl) ?_
  refine va_get (D := D) (ci := 3) (v := .long md.2.2.2.2.1) (C := RX3) (T := TX3) (N := 16) hx hb hts iX3_layRound_X3 hown hK.1 hP 0 rfl rfl 7 (by decide) (hts (.fieldLink RX3 57 "CompassBiasModel" "sxy" "J") (List.mem_of_getElem? (i := 2) rfl)) (fun _ h9 => h9) rfl dX3_layRound_49 ?_
  refine lv_aload_n hx hb dX3_layRound_52 rfl (lv_at hl 0 rfl) ?_
  refine va_get (D := D) (ci := 3) (v := .long md.2.1) (C := RX3) (T := TX3) (N := 16) hx hb hts iX3_layRound_X3 hown hK.1 hP 0 rfl rfl 4 (by decide) (hts (.fieldLink RX3 48 "CompassBiasModel" "sx" "J") (List.mem_of_getElem? (i := 3) rfl)) (fun _ h9 => h9) rfl dX3_layRound_53 ?_
  refine lv_aload_n hx hb dX3_layRound_56 rfl (lv_at hl 0 rfl) ?_
  refine va_get (D := D) (ci := 3) (v := .long md.2.2.2.2.2.2.2.2.1) (C := RX3) (T := TX3) (N := 16) hx hb hts iX3_layRound_X3 hown hK.1 hP 0 rfl rfl 11 (by decide) (hts (.fieldLink RX3 69 "CompassBiasModel" "spy" "J") (List.mem_of_getElem? (i := 9) rfl)) (fun _ h9 => h9) rfl dX3_layRound_57 ?_
  refine lv_aload_n hx hb dX3_layRound_60 rfl (lv_at hl 0 rfl) ?_
  refine va_get (D := D) (ci := 3) (v := .long md.2.2.2.2.2.1) (C := RX3) (T := TX3) (N := 16) hx hb hts iX3_layRound_X3 hown hK.1 hP 0 rfl rfl 8 (by decide) (hts (.fieldLink RX3 60 "CompassBiasModel" "syy" "J") (List.mem_of_getElem? (i := 4) rfl)) (fun _ h9 => h9) rfl dX3_layRound_61 ?_
  refine lv_aload_n hx hb dX3_layRound_64 rfl (lv_at hl 0 rfl) ?_
  refine va_get (D := D) (ci := 3) (v := .long md.2.2.1) (C := RX3) (T := TX3) (N := 16) hx hb hts iX3_layRound_X3 hown hK.1 hP 0 rfl rfl 5 (by decide) (hts (.fieldLink RX3 51 "CompassBiasModel" "sy" "J") (List.mem_of_getElem? (i := 5) rfl)) (fun _ h9 => h9) rfl dX3_layRound_65 ?_
  refine lv_aload_n hx hb dX3_layRound_68 rfl (lv_at hl 0 rfl) ?_
  refine va_get (D := D) (ci := 3) (v := .long md.2.2.2.2.2.2.1) (C := RX3) (T := TX3) (N := 16) hx hb hts iX3_layRound_X3 hown hK.1 hP 0 rfl rfl 9 (by decide) (hts (.fieldLink RX3 63 "CompassBiasModel" "sp" "J") (List.mem_of_getElem? (i := 10) rfl)) (fun _ h9 => h9) rfl dX3_layRound_69 ?_
  refine lv_aload_n hx hb dX3_layRound_72 rfl (lv_at hl 0 rfl) ?_
  refine va_get (D := D) (ci := 3) (v := .long md.2.2.1) (C := RX3) (T := TX3) (N := 16) hx hb hts iX3_layRound_X3 hown hK.1 hP 0 rfl rfl 5 (by decide) (hts (.fieldLink RX3 51 "CompassBiasModel" "sy" "J") (List.mem_of_getElem? (i := 5) rfl)) (fun _ h9 => h9) rfl dX3_layRound_73 ?_
  refine lv_aload_n hx hb dX3_layRound_76 rfl (lv_at hl 0 rfl) ?_
  refine va_get (D := D) (ci := 3) (v := .long md.1) (C := RX3) (T := TX3) (N := 16) hx hb hts iX3_layRound_X3 hown hK.1 hP 0 rfl rfl 3 (by decide) (hts (.fieldLink RX3 44 "CompassBiasModel" "n" "J") (List.mem_of_getElem? (i := 6) rfl)) (fun _ h9 => h9) rfl dX3_layRound_77 ?_
  refine aft_l (wr := [(h0, .inr (3, mdv ast aim akt (md.1, md.2.1, md.2.2.1, md.2.2.2.1, md.2.2.2.2.1, md.2.2.2.2.2.1, md.2.2.2.2.2.2.1, md.2.2.2.2.2.2.2.1, md.2.2.2.2.2.2.2.2.1, md.2.2.2.2.2.2.2.2.2.1, md.2.2.2.2.2.2.2.2.2.2.1, md.2.2.2.2.2.2.2.2.2.2.2.1, F_X3_det md.2.2.2.1 md.2.2.2.2.1 md.2.1 md.2.2.2.2.1 md.2.2.2.2.2.1 md.2.2.1 md.2.1 md.2.2.1 md.1)))]) (run_S (As := [.long md.2.2.2.2.2.2.2.1, .long md.2.2.2.2.1, .long md.2.1, .long md.2.2.2.2.2.2.2.2.1, .long md.2.2.2.2.2.1, .long md.2.2.1, .long md.2.2.2.2.2.2.1, .long md.2.2.1, .long md.1]) (rest := [.ref h0]) C (c_X3_det l D cI cZ md.2.2.2.2.2.2.2.1 md.2.2.2.2.1 md.2.1 md.2.2.2.2.2.2.2.2.1 md.2.2.2.2.2.1 md.2.2.1 md.2.2.2.2.2.2.1 md.2.2.1 md.1) (va_cwS 9 hts gX3_layRound_X3_det rfl rfl rfl (by decide +kernel) ⟨Nat.le_of_ble_eq_true rfl, Nat.le_of_ble_eq_true rfl⟩) hK (hP.sub (ws' := []) [] rfl) (hD.sub (ws' := []) [] (by decide) rfl) rfl hl.1 rfl (Nat.le_of_ble_eq_true rfl) dX3_layRound_80 (Nat.zero_le _) (Nat.zero_le _)) hP hD hS hA [] [0] rfl rfl (by decide) (by decide) (fun z9 u9 H locs hw hP hD hS => ?_)
  subst hw
  have hP : va_P D classes [(h0, .inr (3, mdv ast aim akt (md.1, md.2.1, md.2.2.1, md.2.2.2.1, md.2.2.2.2.1, md.2.2.2.2.2.1, md.2.2.2.2.2.2.1, md.2.2.2.2.2.2.2.1, md.2.2.2.2.2.2.2.2.1, md.2.2.2.2.2.2.2.2.2.1, md.2.2.2.2.2.2.2.2.2.2.1, md.2.2.2.2.2.2.2.2.2.2.2.1, F_X3_det md.2.2.2.1 md.2.2.2.2.1 md.2.1 md.2.2.2.2.1 md.2.2.2.2.2.1 md.2.2.1 md.2.1 md.2.2.1 md.1)))] H := hP
  have hD : va_D A [(h0, .inr (3, mdv ast aim akt (md.1, md.2.1, md.2.2.1, md.2.2.2.1, md.2.2.2.2.1, md.2.2.2.2.2.1, md.2.2.2.2.2.2.1, md.2.2.2.2.2.2.2.1, md.2.2.2.2.2.2.2.2.1, md.2.2.2.2.2.2.2.2.2.1, md.2.2.2.2.2.2.2.2.2.2.1, md.2.2.2.2.2.2.2.2.2.2.2.1, F_X3_det md.2.2.2.1 md.2.2.2.2.1 md.2.1 md.2.2.2.2.1 md.2.2.2.2.2.1 md.2.2.1 md.2.1 md.2.2.1 md.1)))] := hD
  refine va_put (D := D) (ci := 3) (v := .long (F_X3_det md.2.2.2.2.2.2.2.1 md.2.2.2.2.1 md.2.1 md.2.2.2.2.2.2.2.2.1 md.2.2.2.2.2.1 md.2.2.1 md.2.2.2.2.2.2.1 md.2.2.1 md.1)) (ty := .long) (C := RX3) (T := TX3) (N := 16) hx hb hts iX3_layRound_X3 tyX3 tyX3_ok nmX3 hown hK.1 hP hD hS 0 rfl rfl 12 (by decide) (hts (.fieldLink RX3 83 "CompassBiasModel" "a" "J") (List.mem_of_getElem? (i := 11) rfl)) (fun _ h9 => h9) rfl (by decide +kernel) rfl rfl (Nat.le_of_ble_eq_true rfl) dX3_layRound_83 (fun H locs hP hD hS => ?_)
  have hP : va_P D classes [(h0, .inr (3, mdv ast aim akt (md.1, md.2.1, md.2.2.1, md.2.2.2.1, md.2.2.2.2.1, md.2.2.2.2.2.1, md.2.2.2.2.2.2.1, md.2.2.2.2.2.2.2.1, md.2.2.2.2.2.2.2.2.1, F_X3_det md.2.2.2.2.2.2.2.1 md.2.2.2.2.1 md.2.1 md.2.2.2.2.2.2.2.2.1 md.2.2.2.2.2.1 md.2.2.1 md.2.2.2.2.2.2.1 md.2.2.1 md.1, md.2.2.2.2.2.2.2.2.2.2.1, md.2.2.2.2.2.2.2.2.2.2.2.1, F_X3_det md.2.2.2.1 md.2.2.2.2.1 md.2.1 md.2.2.2.2.1 md.2.2.2.2.2.1 md.2.2.1 md.2.1 md.2.2.1 md.1)))] H := hP
  have hD : va_D A [(h0, .inr (3, mdv ast aim akt (md.1, md.2.1, md.2.2.1, md.2.2.2.1, md.2.2.2.2.1, md.2.2.2.2.2.1, md.2.2.2.2.2.2.1, md.2.2.2.2.2.2.2.1, md.2.2.2.2.2.2.2.2.1, F_X3_det md.2.2.2.2.2.2.2.1 md.2.2.2.2.1 md.2.1 md.2.2.2.2.2.2.2.2.1 md.2.2.2.2.2.1 md.2.2.1 md.2.2.2.2.2.2.1 md.2.2.1 md.1, md.2.2.2.2.2.2.2.2.2.2.1, md.2.2.2.2.2.2.2.2.2.2.2.1, F_X3_det md.2.2.2.1 md.2.2.2.2.1 md.2.1 md.2.2.2.2.1 md.2.2.2.2.2.1 md.2.2.1 md.2.1 md.2.2.1 md.1)))] := hD
  refine lv_aload_n hx hb dX3_layRound_86 rfl (lv_at hl 0 rfl) ?_
  refine lv_aload_n hx hb dX3_layRound_87 rfl (lv_at hl 0 rfl) ?_
  refine va_get (D := D) (ci := 3) (v := .long md.2.2.2.1) (C := RX3) (T := TX3) (N := 16) hx hb hts iX3_layRound_X3 hown hK.1 hP 0 rfl rfl 6 (by decide) (hts (.fieldLink RX3 54 "CompassBiasModel" "sxx" "J") (List.mem_of_getElem? (i := 1) rfl)) (fun _ h9 => h9) rfl dX3_layRound_88 ?_
  refine lv_aload_n hx hb dX3_layRound_91 rfl (lv_at hl 0 rfl) ?_
  refine va_get (D := D) (ci := 3) (v := .long md.2.2.2.2.2.2.2.1) (C := RX3) (T := TX3) (N := 16) hx hb hts iX3_layRound_X3 hown hK.1 hP 0 rfl rfl 10 (by decide) (hts (.fieldLink RX3 66 "CompassBiasModel" "spx" "J") (List.mem_of_getElem? (i := 8) rfl)) (fun _ h9 => h9) rfl dX3_layRound_92 ?_
  refine lv_aload_n hx hb dX3_layRound_95 rfl (lv_at hl 0 rfl) ?_
  refine va_get (D := D) (ci := 3) (v := .long md.2.1) (C := RX3) (T := TX3) (N := 16) hx hb hts iX3_layRound_X3 hown hK.1 hP 0 rfl rfl 4 (by decide) (hts (.fieldLink RX3 48 "CompassBiasModel" "sx" "J") (List.mem_of_getElem? (i := 3) rfl)) (fun _ h9 => h9) rfl dX3_layRound_96 ?_
  refine lv_aload_n hx hb dX3_layRound_99 rfl (lv_at hl 0 rfl) ?_
  refine va_get (D := D) (ci := 3) (v := .long md.2.2.2.2.1) (C := RX3) (T := TX3) (N := 16) hx hb hts iX3_layRound_X3 hown hK.1 hP 0 rfl rfl 7 (by decide) (hts (.fieldLink RX3 57 "CompassBiasModel" "sxy" "J") (List.mem_of_getElem? (i := 2) rfl)) (fun _ h9 => h9) rfl dX3_layRound_100 ?_
  refine lv_aload_n hx hb dX3_layRound_103 rfl (lv_at hl 0 rfl) ?_
  refine va_get (D := D) (ci := 3) (v := .long md.2.2.2.2.2.2.2.2.1) (C := RX3) (T := TX3) (N := 16) hx hb hts iX3_layRound_X3 hown hK.1 hP 0 rfl rfl 11 (by decide) (hts (.fieldLink RX3 69 "CompassBiasModel" "spy" "J") (List.mem_of_getElem? (i := 9) rfl)) (fun _ h9 => h9) rfl dX3_layRound_104 ?_
  refine lv_aload_n hx hb dX3_layRound_107 rfl (lv_at hl 0 rfl) ?_
  refine va_get (D := D) (ci := 3) (v := .long md.2.2.1) (C := RX3) (T := TX3) (N := 16) hx hb hts iX3_layRound_X3 hown hK.1 hP 0 rfl rfl 5 (by decide) (hts (.fieldLink RX3 51 "CompassBiasModel" "sy" "J") (List.mem_of_getElem? (i := 5) rfl)) (fun _ h9 => h9) rfl dX3_layRound_108 ?_
  refine lv_aload_n hx hb dX3_layRound_111 rfl (lv_at hl 0 rfl) ?_
  refine va_get (D := D) (ci := 3) (v := .long md.2.1) (C := RX3) (T := TX3) (N := 16) hx hb hts iX3_layRound_X3 hown hK.1 hP 0 rfl rfl 4 (by decide) (hts (.fieldLink RX3 48 "CompassBiasModel" "sx" "J") (List.mem_of_getElem? (i := 3) rfl)) (fun _ h9 => h9) rfl dX3_layRound_112 ?_
  refine lv_aload_n hx hb dX3_layRound_115 rfl (lv_at hl 0 rfl) ?_
  refine va_get (D := D) (ci := 3) (v := .long md.2.2.2.2.2.2.1) (C := RX3) (T := TX3) (N := 16) hx hb hts iX3_layRound_X3 hown hK.1 hP 0 rfl rfl 9 (by decide) (hts (.fieldLink RX3 63 "CompassBiasModel" "sp" "J") (List.mem_of_getElem? (i := 10) rfl)) (fun _ h9 => h9) rfl dX3_layRound_116 ?_
  refine lv_aload_n hx hb dX3_layRound_119 rfl (lv_at hl 0 rfl) ?_
  refine va_get (D := D) (ci := 3) (v := .long md.1) (C := RX3) (T := TX3) (N := 16) hx hb hts iX3_layRound_X3 hown hK.1 hP 0 rfl rfl 3 (by decide) (hts (.fieldLink RX3 44 "CompassBiasModel" "n" "J") (List.mem_of_getElem? (i := 6) rfl)) (fun _ h9 => h9) rfl dX3_layRound_120 ?_
  refine aft_l (wr := [(h0, .inr (3, mdv ast aim akt (md.1, md.2.1, md.2.2.1, md.2.2.2.1, md.2.2.2.2.1, md.2.2.2.2.2.1, md.2.2.2.2.2.2.1, md.2.2.2.2.2.2.2.1, md.2.2.2.2.2.2.2.2.1, F_X3_det md.2.2.2.2.2.2.2.1 md.2.2.2.2.1 md.2.1 md.2.2.2.2.2.2.2.2.1 md.2.2.2.2.2.1 md.2.2.1 md.2.2.2.2.2.2.1 md.2.2.1 md.1, md.2.2.2.2.2.2.2.2.2.2.1, md.2.2.2.2.2.2.2.2.2.2.2.1, F_X3_det md.2.2.2.1 md.2.2.2.2.1 md.2.1 md.2.2.2.2.1 md.2.2.2.2.2.1 md.2.2.1 md.2.1 md.2.2.1 md.1)))]) (run_S (As := [.long md.2.2.2.1, .long md.2.2.2.2.2.2.2.1, .long md.2.1, .long md.2.2.2.2.1, .long md.2.2.2.2.2.2.2.2.1, .long md.2.2.1, .long md.2.1, .long md.2.2.2.2.2.2.1, .long md.1]) (rest := [.ref h0]) C (c_X3_det l D cI cZ md.2.2.2.1 md.2.2.2.2.2.2.2.1 md.2.1 md.2.2.2.2.1 md.2.2.2.2.2.2.2.2.1 md.2.2.1 md.2.1 md.2.2.2.2.2.2.1 md.1) (va_cwS 9 hts gX3_layRound_X3_det rfl rfl rfl (by decide +kernel) ⟨Nat.le_of_ble_eq_true rfl, Nat.le_of_ble_eq_true rfl⟩) hK (hP.sub (ws' := []) [] rfl) (hD.sub (ws' := []) [] (by decide) rfl) rfl hl.1 rfl (Nat.le_of_ble_eq_true rfl) dX3_layRound_123 (Nat.zero_le _) (Nat.zero_le _)) hP hD hS hA [] [0] rfl rfl (by decide) (by decide) (fun z9 u9 H locs hw hP hD hS => ?_)
  subst hw
  have hP : va_P D classes [(h0, .inr (3, mdv ast aim akt (md.1, md.2.1, md.2.2.1, md.2.2.2.1, md.2.2.2.2.1, md.2.2.2.2.2.1, md.2.2.2.2.2.2.1, md.2.2.2.2.2.2.2.1, md.2.2.2.2.2.2.2.2.1, F_X3_det md.2.2.2.2.2.2.2.1 md.2.2.2.2.1 md.2.1 md.2.2.2.2.2.2.2.2.1 md.2.2.2.2.2.1 md.2.2.1 md.2.2.2.2.2.2.1 md.2.2.1 md.1, md.2.2.2.2.2.2.2.2.2.2.1, md.2.2.2.2.2.2.2.2.2.2.2.1, F_X3_det md.2.2.2.1 md.2.2.2.2.1 md.2.1 md.2.2.2.2.1 md.2.2.2.2.2.1 md.2.2.1 md.2.1 md.2.2.1 md.1)))] H := hP
  have hD : va_D A [(h0, .inr (3, mdv ast aim akt (md.1, md.2.1, md.2.2.1, md.2.2.2.1, md.2.2.2.2.1, md.2.2.2.2.2.1, md.2.2.2.2.2.2.1, md.2.2.2.2.2.2.2.1, md.2.2.2.2.2.2.2.2.1, F_X3_det md.2.2.2.2.2.2.2.1 md.2.2.2.2.1 md.2.1 md.2.2.2.2.2.2.2.2.1 md.2.2.2.2.2.1 md.2.2.1 md.2.2.2.2.2.2.1 md.2.2.1 md.1, md.2.2.2.2.2.2.2.2.2.2.1, md.2.2.2.2.2.2.2.2.2.2.2.1, F_X3_det md.2.2.2.1 md.2.2.2.2.1 md.2.1 md.2.2.2.2.1 md.2.2.2.2.2.1 md.2.2.1 md.2.1 md.2.2.1 md.1)))] := hD
  refine va_put (D := D) (ci := 3) (v := .long (F_X3_det md.2.2.2.1 md.2.2.2.2.2.2.2.1 md.2.1 md.2.2.2.2.1 md.2.2.2.2.2.2.2.2.1 md.2.2.1 md.2.1 md.2.2.2.2.2.2.1 md.1)) (ty := .long) (C := RX3) (T := TX3) (N := 16) hx hb hts iX3_layRound_X3 tyX3 tyX3_ok nmX3 hown hK.1 hP hD hS 0 rfl rfl 13 (by decide) (hts (.fieldLink RX3 86 "CompassBiasModel" "b" "J") (List.mem_of_getElem? (i := 12) rfl)) (fun _ h9 => h9) rfl (by decide +kernel) rfl rfl (Nat.le_of_ble_eq_true rfl) dX3_layRound_126 (fun H locs hP hD hS => ?_)
  have hP : va_P D classes [(h0, .inr (3, mdv ast aim akt (md.1, md.2.1, md.2.2.1, md.2.2.2.1, md.2.2.2.2.1, md.2.2.2.2.2.1, md.2.2.2.2.2.2.1, md.2.2.2.2.2.2.2.1, md.2.2.2.2.2.2.2.2.1, F_X3_det md.2.2.2.2.2.2.2.1 md.2.2.2.2.1 md.2.1 md.2.2.2.2.2.2.2.2.1 md.2.2.2.2.2.1 md.2.2.1 md.2.2.2.2.2.2.1 md.2.2.1 md.1, F_X3_det md.2.2.2.1 md.2.2.2.2.2.2.2.1 md.2.1 md.2.2.2.2.1 md.2.2.2.2.2.2.2.2.1 md.2.2.1 md.2.1 md.2.2.2.2.2.2.1 md.1, md.2.2.2.2.2.2.2.2.2.2.2.1, F_X3_det md.2.2.2.1 md.2.2.2.2.1 md.2.1 md.2.2.2.2.1 md.2.2.2.2.2.1 md.2.2.1 md.2.1 md.2.2.1 md.1)))] H := hP
  have hD : va_D A [(h0, .inr (3, mdv ast aim akt (md.1, md.2.1, md.2.2.1, md.2.2.2.1, md.2.2.2.2.1, md.2.2.2.2.2.1, md.2.2.2.2.2.2.1, md.2.2.2.2.2.2.2.1, md.2.2.2.2.2.2.2.2.1, F_X3_det md.2.2.2.2.2.2.2.1 md.2.2.2.2.1 md.2.1 md.2.2.2.2.2.2.2.2.1 md.2.2.2.2.2.1 md.2.2.1 md.2.2.2.2.2.2.1 md.2.2.1 md.1, F_X3_det md.2.2.2.1 md.2.2.2.2.2.2.2.1 md.2.1 md.2.2.2.2.1 md.2.2.2.2.2.2.2.2.1 md.2.2.1 md.2.1 md.2.2.2.2.2.2.1 md.1, md.2.2.2.2.2.2.2.2.2.2.2.1, F_X3_det md.2.2.2.1 md.2.2.2.2.1 md.2.1 md.2.2.2.2.1 md.2.2.2.2.2.1 md.2.2.1 md.2.1 md.2.2.1 md.1)))] := hD
  refine lv_aload_n hx hb dX3_layRound_129 rfl (lv_at hl 0 rfl) ?_
  refine lv_aload_n hx hb dX3_layRound_130 rfl (lv_at hl 0 rfl) ?_
  refine va_get (D := D) (ci := 3) (v := .long md.2.2.2.1) (C := RX3) (T := TX3) (N := 16) hx hb hts iX3_layRound_X3 hown hK.1 hP 0 rfl rfl 6 (by decide) (hts (.fieldLink RX3 54 "CompassBiasModel" "sxx" "J") (List.mem_of_getElem? (i := 1) rfl)) (fun _ h9 => h9) rfl dX3_layRound_131 ?_
  refine lv_aload_n hx hb dX3_layRound_134 rfl (lv_at hl 0 rfl) ?_
  refine va_get (D := D) (ci := 3) (v := .long md.2.2.2.2.1) (C := RX3) (T := TX3) (N := 16) hx hb hts iX3_layRound_X3 hown hK.1 hP 0 rfl rfl 7 (by decide) (hts (.fieldLink RX3 57 "CompassBiasModel" "sxy" "J") (List.mem_of_getElem? (i := 2) rfl)) (fun _ h9 => h9) rfl dX3_layRound_135 ?_
  refine lv_aload_n hx hb dX3_layRound_138 rfl (lv_at hl 0 rfl) ?_
  refine va_get (D := D) (ci := 3) (v := .long md.2.2.2.2.2.2.2.1) (C := RX3) (T := TX3) (N := 16) hx hb hts iX3_layRound_X3 hown hK.1 hP 0 rfl rfl 10 (by decide) (hts (.fieldLink RX3 66 "CompassBiasModel" "spx" "J") (List.mem_of_getElem? (i := 8) rfl)) (fun _ h9 => h9) rfl dX3_layRound_139 ?_
  refine lv_aload_n hx hb dX3_layRound_142 rfl (lv_at hl 0 rfl) ?_
  refine va_get (D := D) (ci := 3) (v := .long md.2.2.2.2.1) (C := RX3) (T := TX3) (N := 16) hx hb hts iX3_layRound_X3 hown hK.1 hP 0 rfl rfl 7 (by decide) (hts (.fieldLink RX3 57 "CompassBiasModel" "sxy" "J") (List.mem_of_getElem? (i := 2) rfl)) (fun _ h9 => h9) rfl dX3_layRound_143 ?_
  refine lv_aload_n hx hb dX3_layRound_146 rfl (lv_at hl 0 rfl) ?_
  refine va_get (D := D) (ci := 3) (v := .long md.2.2.2.2.2.1) (C := RX3) (T := TX3) (N := 16) hx hb hts iX3_layRound_X3 hown hK.1 hP 0 rfl rfl 8 (by decide) (hts (.fieldLink RX3 60 "CompassBiasModel" "syy" "J") (List.mem_of_getElem? (i := 4) rfl)) (fun _ h9 => h9) rfl dX3_layRound_147 ?_
  refine lv_aload_n hx hb dX3_layRound_150 rfl (lv_at hl 0 rfl) ?_
  refine va_get (D := D) (ci := 3) (v := .long md.2.2.2.2.2.2.2.2.1) (C := RX3) (T := TX3) (N := 16) hx hb hts iX3_layRound_X3 hown hK.1 hP 0 rfl rfl 11 (by decide) (hts (.fieldLink RX3 69 "CompassBiasModel" "spy" "J") (List.mem_of_getElem? (i := 9) rfl)) (fun _ h9 => h9) rfl dX3_layRound_151 ?_
  refine lv_aload_n hx hb dX3_layRound_154 rfl (lv_at hl 0 rfl) ?_
  refine va_get (D := D) (ci := 3) (v := .long md.2.1) (C := RX3) (T := TX3) (N := 16) hx hb hts iX3_layRound_X3 hown hK.1 hP 0 rfl rfl 4 (by decide) (hts (.fieldLink RX3 48 "CompassBiasModel" "sx" "J") (List.mem_of_getElem? (i := 3) rfl)) (fun _ h9 => h9) rfl dX3_layRound_155 ?_
  refine lv_aload_n hx hb dX3_layRound_158 rfl (lv_at hl 0 rfl) ?_
  refine va_get (D := D) (ci := 3) (v := .long md.2.2.1) (C := RX3) (T := TX3) (N := 16) hx hb hts iX3_layRound_X3 hown hK.1 hP 0 rfl rfl 5 (by decide) (hts (.fieldLink RX3 51 "CompassBiasModel" "sy" "J") (List.mem_of_getElem? (i := 5) rfl)) (fun _ h9 => h9) rfl dX3_layRound_159 ?_
  refine lv_aload_n hx hb dX3_layRound_162 rfl (lv_at hl 0 rfl) ?_
  refine va_get (D := D) (ci := 3) (v := .long md.2.2.2.2.2.2.1) (C := RX3) (T := TX3) (N := 16) hx hb hts iX3_layRound_X3 hown hK.1 hP 0 rfl rfl 9 (by decide) (hts (.fieldLink RX3 63 "CompassBiasModel" "sp" "J") (List.mem_of_getElem? (i := 10) rfl)) (fun _ h9 => h9) rfl dX3_layRound_163 ?_
  refine aft_l (wr := [(h0, .inr (3, mdv ast aim akt (md.1, md.2.1, md.2.2.1, md.2.2.2.1, md.2.2.2.2.1, md.2.2.2.2.2.1, md.2.2.2.2.2.2.1, md.2.2.2.2.2.2.2.1, md.2.2.2.2.2.2.2.2.1, F_X3_det md.2.2.2.2.2.2.2.1 md.2.2.2.2.1 md.2.1 md.2.2.2.2.2.2.2.2.1 md.2.2.2.2.2.1 md.2.2.1 md.2.2.2.2.2.2.1 md.2.2.1 md.1, F_X3_det md.2.2.2.1 md.2.2.2.2.2.2.2.1 md.2.1 md.2.2.2.2.1 md.2.2.2.2.2.2.2.2.1 md.2.2.1 md.2.1 md.2.2.2.2.2.2.1 md.1, md.2.2.2.2.2.2.2.2.2.2.2.1, F_X3_det md.2.2.2.1 md.2.2.2.2.1 md.2.1 md.2.2.2.2.1 md.2.2.2.2.2.1 md.2.2.1 md.2.1 md.2.2.1 md.1)))]) (run_S (As := [.long md.2.2.2.1, .long md.2.2.2.2.1, .long md.2.2.2.2.2.2.2.1, .long md.2.2.2.2.1, .long md.2.2.2.2.2.1, .long md.2.2.2.2.2.2.2.2.1, .long md.2.1, .long md.2.2.1, .long md.2.2.2.2.2.2.1]) (rest := [.ref h0]) C (c_X3_det l D cI cZ md.2.2.2.1 md.2.2.2.2.1 md.2.2.2.2.2.2.2.1 md.2.2.2.2.1 md.2.2.2.2.2.1 md.2.2.2.2.2.2.2.2.1 md.2.1 md.2.2.1 md.2.2.2.2.2.2.1) (va_cwS 9 hts gX3_layRound_X3_det rfl rfl rfl (by decide +kernel) ⟨Nat.le_of_ble_eq_true rfl, Nat.le_of_ble_eq_true rfl⟩) hK (hP.sub (ws' := []) [] rfl) (hD.sub (ws' := []) [] (by decide) rfl) rfl hl.1 rfl (Nat.le_of_ble_eq_true rfl) dX3_layRound_166 (Nat.zero_le _) (Nat.zero_le _)) hP hD hS hA [] [0] rfl rfl (by decide) (by decide) (fun z9 u9 H locs hw hP hD hS => ?_)
  subst hw
  have hP : va_P D classes [(h0, .inr (3, mdv ast aim akt (md.1, md.2.1, md.2.2.1, md.2.2.2.1, md.2.2.2.2.1, md.2.2.2.2.2.1, md.2.2.2.2.2.2.1, md.2.2.2.2.2.2.2.1, md.2.2.2.2.2.2.2.2.1, F_X3_det md.2.2.2.2.2.2.2.1 md.2.2.2.2.1 md.2.1 md.2.2.2.2.2.2.2.2.1 md.2.2.2.2.2.1 md.2.2.1 md.2.2.2.2.2.2.1 md.2.2.1 md.1, F_X3_det md.2.2.2.1 md.2.2.2.2.2.2.2.1 md.2.1 md.2.2.2.2.1 md.2.2.2.2.2.2.2.2.1 md.2.2.1 md.2.1 md.2.2.2.2.2.2.1 md.1, md.2.2.2.2.2.2.2.2.2.2.2.1, F_X3_det md.2.2.2.1 md.2.2.2.2.1 md.2.1 md.2.2.2.2.1 md.2.2.2.2.2.1 md.2.2.1 md.2.1 md.2.2.1 md.1)))] H := hP
  have hD : va_D A [(h0, .inr (3, mdv ast aim akt (md.1, md.2.1, md.2.2.1, md.2.2.2.1, md.2.2.2.2.1, md.2.2.2.2.2.1, md.2.2.2.2.2.2.1, md.2.2.2.2.2.2.2.1, md.2.2.2.2.2.2.2.2.1, F_X3_det md.2.2.2.2.2.2.2.1 md.2.2.2.2.1 md.2.1 md.2.2.2.2.2.2.2.2.1 md.2.2.2.2.2.1 md.2.2.1 md.2.2.2.2.2.2.1 md.2.2.1 md.1, F_X3_det md.2.2.2.1 md.2.2.2.2.2.2.2.1 md.2.1 md.2.2.2.2.1 md.2.2.2.2.2.2.2.2.1 md.2.2.1 md.2.1 md.2.2.2.2.2.2.1 md.1, md.2.2.2.2.2.2.2.2.2.2.2.1, F_X3_det md.2.2.2.1 md.2.2.2.2.1 md.2.1 md.2.2.2.2.1 md.2.2.2.2.2.1 md.2.2.1 md.2.1 md.2.2.1 md.1)))] := hD
  refine va_put (D := D) (ci := 3) (v := .long (F_X3_det md.2.2.2.1 md.2.2.2.2.1 md.2.2.2.2.2.2.2.1 md.2.2.2.2.1 md.2.2.2.2.2.1 md.2.2.2.2.2.2.2.2.1 md.2.1 md.2.2.1 md.2.2.2.2.2.2.1)) (ty := .long) (C := RX3) (T := TX3) (N := 16) hx hb hts iX3_layRound_X3 tyX3 tyX3_ok nmX3 hown hK.1 hP hD hS 0 rfl rfl 14 (by decide) (hts (.fieldLink RX3 89 "CompassBiasModel" "c" "J") (List.mem_of_getElem? (i := 13) rfl)) (fun _ h9 => h9) rfl (by decide +kernel) rfl rfl (Nat.le_of_ble_eq_true rfl) dX3_layRound_169 (fun H locs hP hD hS => ?_)
  have hP : va_P D classes [(h0, .inr (3, mdv ast aim akt (md.1, md.2.1, md.2.2.1, md.2.2.2.1, md.2.2.2.2.1, md.2.2.2.2.2.1, md.2.2.2.2.2.2.1, md.2.2.2.2.2.2.2.1, md.2.2.2.2.2.2.2.2.1, F_X3_det md.2.2.2.2.2.2.2.1 md.2.2.2.2.1 md.2.1 md.2.2.2.2.2.2.2.2.1 md.2.2.2.2.2.1 md.2.2.1 md.2.2.2.2.2.2.1 md.2.2.1 md.1, F_X3_det md.2.2.2.1 md.2.2.2.2.2.2.2.1 md.2.1 md.2.2.2.2.1 md.2.2.2.2.2.2.2.2.1 md.2.2.1 md.2.1 md.2.2.2.2.2.2.1 md.1, F_X3_det md.2.2.2.1 md.2.2.2.2.1 md.2.2.2.2.2.2.2.1 md.2.2.2.2.1 md.2.2.2.2.2.1 md.2.2.2.2.2.2.2.2.1 md.2.1 md.2.2.1 md.2.2.2.2.2.2.1, F_X3_det md.2.2.2.1 md.2.2.2.2.1 md.2.1 md.2.2.2.2.1 md.2.2.2.2.2.1 md.2.2.1 md.2.1 md.2.2.1 md.1)))] H := hP
  have hD : va_D A [(h0, .inr (3, mdv ast aim akt (md.1, md.2.1, md.2.2.1, md.2.2.2.1, md.2.2.2.2.1, md.2.2.2.2.2.1, md.2.2.2.2.2.2.1, md.2.2.2.2.2.2.2.1, md.2.2.2.2.2.2.2.2.1, F_X3_det md.2.2.2.2.2.2.2.1 md.2.2.2.2.1 md.2.1 md.2.2.2.2.2.2.2.2.1 md.2.2.2.2.2.1 md.2.2.1 md.2.2.2.2.2.2.1 md.2.2.1 md.1, F_X3_det md.2.2.2.1 md.2.2.2.2.2.2.2.1 md.2.1 md.2.2.2.2.1 md.2.2.2.2.2.2.2.2.1 md.2.2.1 md.2.1 md.2.2.2.2.2.2.1 md.1, F_X3_det md.2.2.2.1 md.2.2.2.2.1 md.2.2.2.2.2.2.2.1 md.2.2.2.2.1 md.2.2.2.2.2.1 md.2.2.2.2.2.2.2.2.1 md.2.1 md.2.2.1 md.2.2.2.2.2.2.1, F_X3_det md.2.2.2.1 md.2.2.2.2.1 md.2.1 md.2.2.2.2.1 md.2.2.2.2.2.1 md.2.2.1 md.2.1 md.2.2.1 md.1)))] := hD
  exact ret_v C (md.1, md.2.1, md.2.2.1, md.2.2.2.1, md.2.2.2.2.1, md.2.2.2.2.2.1, md.2.2.2.2.2.2.1, md.2.2.2.2.2.2.2.1, md.2.2.2.2.2.2.2.2.1, F_X3_det md.2.2.2.2.2.2.2.1 md.2.2.2.2.1 md.2.1 md.2.2.2.2.2.2.2.2.1 md.2.2.2.2.2.1 md.2.2.1 md.2.2.2.2.2.2.1 md.2.2.1 md.1, F_X3_det md.2.2.2.1 md.2.2.2.2.2.2.2.1 md.2.1 md.2.2.2.2.1 md.2.2.2.2.2.2.2.2.1 md.2.2.1 md.2.1 md.2.2.2.2.2.2.1 md.1, F_X3_det md.2.2.2.1 md.2.2.2.2.1 md.2.2.2.2.2.2.2.1 md.2.2.2.2.1 md.2.2.2.2.2.1 md.2.2.2.2.2.2.2.2.1 md.2.1 md.2.2.1 md.2.2.2.2.2.2.1, F_X3_det md.2.2.2.1 md.2.2.2.2.1 md.2.1 md.2.2.2.2.1 md.2.2.2.2.2.1 md.2.2.1 md.2.1 md.2.2.1 md.1) rfl hP hD hS dX3_layRound_172
def F_X3_lay (st : Nat → Int32) (md : Rd) (p0 : Int32) : Int32 × Rd := if (lg_cmp ((F_X3_layRound (F_X3_sumSet st md p0)).2.2.2.2.2.2.2.2.2.2.2.2) 0) = 0 then ((0, F_X3_layRound (F_X3_sumSet st md p0))) else ((1, F_X3_layRound (F_X3_sumSet st md p0)))
theorem iX3_lay_X3 : ∀ w ∈ u_ws RX3 TX3 16, w ∈ wsX3_lay := fun _ h => List.mem_cons_of_mem _ (List.mem_append_right _ (h))
set_option maxHeartbeats 4000000 in
set_option maxRecDepth 100000 in
theorem c_X3_lay (l : Launch) (D : va_G) (cI cZ : ClassId) (h0 ast aim akt : Nat) (st : Nat → Int32) (md : Rd) (p0 : Int32) (hm : MB st) : CTi l yX3_lay wsX3_lay ({ frames := 3, cells := 0, slots := 0, locals := 66 } : Room) D cI cZ [.ref h0, .int p0] [(h0, .inr (3, mdv ast aim akt md)), (ast, .inl (cI, 23, .inl st))] (S := Rd) (fun z9 u9 => F_X3_lay st md p0 = (z9, u9)) (fun u => [(h0, .inr (3, mdv ast aim akt u)), (ast, .inl (cI, 23, .inl st))]) := by
  refine enterM (cc := cX3_lay) (maxL := 2) (ret := (some .boolean)) (own := RX3) (Qc := fun A => va_Qi (S := Rd) (fun z9 u9 => F_X3_lay st md p0 = (z9, u9)) (PoB (S := Rd) D A (fun u => [(h0, .inr (3, mdv ast aim akt u)), (ast, .inl (cI, 23, .inl st))])) A) (by decide) rfl rfl (Nat.le_of_ble_eq_true rfl) ?_
  intro p e s m below meth c A ls C hK hA hP hD hS hl
  have hx := C.1
  have hb := C.2.1
  have hown := C.2.2.2.1
  have hts := C.2.2.2.2.1
  have _huse := hts
  have hl : lv_has ls 2 [(0, .ref h0), (1, .int p0)] := hl
  refine lv_aload_n hx hb dX3_lay_0 rfl (lv_at hl 0 rfl) ?_
  refine lv_iload_n hx hb dX3_lay_1 rfl (lv_at hl 1 rfl) ?_
  refine aft_v (wr := []) (run_V (As := [.int p0]) (rest := []) C (c_X3_sumSet l D cI cZ h0 ast aim akt st md p0 hm) (cwV 1 hts gX3_lay_X3_sumSet rfl rfl rfl (by decide +kernel) ⟨Nat.le_of_ble_eq_true rfl, Nat.le_of_ble_eq_true rfl⟩) hK (hP.sub (ws' := [(h0, .inr (3, mdv ast aim akt md)), (ast, .inl (cI, 23, .inl st))]) [0, 1] rfl) (hD.sub (ws' := [(h0, .inr (3, mdv ast aim akt md)), (ast, .inl (cI, 23, .inl st))]) [0, 1] (by decide) rfl) 0 3 rfl rfl rfl rfl hl.1 rfl (Nat.le_of_ble_eq_true rfl) dX3_lay_2 (Nat.zero_le _) (Nat.zero_le _)) hP hD hS hA [0, 1] [] rfl rfl (by decide) (by decide) (fun u9 H locs hw hP hD hS => ?_)
  subst hw
  have hP : va_P D classes [(h0, .inr (3, mdv ast aim akt (F_X3_sumSet st md p0))), (ast, .inl (cI, 23, .inl st))] H := hP
  have hD : va_D A [(h0, .inr (3, mdv ast aim akt (F_X3_sumSet st md p0))), (ast, .inl (cI, 23, .inl st))] := hD
  refine lv_aload_n hx hb dX3_lay_5 rfl (lv_at hl 0 rfl) ?_
  refine aft_v (wr := [(ast, .inl (cI, 23, .inl st))]) (run_V (As := []) (rest := []) C (c_X3_layRound l D cI cZ h0 ast aim akt (F_X3_sumSet st md p0)) (cwV 0 hts gX3_lay_X3_layRound rfl rfl rfl (by decide +kernel) ⟨Nat.le_of_ble_eq_true rfl, Nat.le_of_ble_eq_true rfl⟩) hK (hP.sub (ws' := [(h0, .inr (3, mdv ast aim akt (F_X3_sumSet st md p0)))]) [0] rfl) (hD.sub (ws' := [(h0, .inr (3, mdv ast aim akt (F_X3_sumSet st md p0)))]) [0] (by decide) rfl) 0 3 rfl rfl rfl rfl hl.1 rfl (Nat.le_of_ble_eq_true rfl) dX3_lay_6 (Nat.zero_le _) (Nat.zero_le _)) hP hD hS hA [0] [1] rfl rfl (by decide) (by decide) (fun u9 H locs hw hP hD hS => ?_)
  subst hw
  have hP : va_P D classes [(ast, .inl (cI, 23, .inl st)), (h0, .inr (3, mdv ast aim akt (F_X3_layRound (F_X3_sumSet st md p0))))] H := hP
  have hD : va_D A [(ast, .inl (cI, 23, .inl st)), (h0, .inr (3, mdv ast aim akt (F_X3_layRound (F_X3_sumSet st md p0))))] := hD
  refine lv_aload_n hx hb dX3_lay_9 rfl (lv_at hl 0 rfl) ?_
  refine va_get (D := D) (ci := 3) (v := .long ((F_X3_layRound (F_X3_sumSet st md p0)).2.2.2.2.2.2.2.2.2.2.2.2)) (C := RX3) (T := TX3) (N := 16) hx hb hts iX3_lay_X3 hown hK.1 hP 1 rfl rfl 15 (by decide) (hts (.fieldLink RX3 80 "CompassBiasModel" "by" "J") (List.mem_of_getElem? (i := 1) rfl)) (fun _ h9 => h9) rfl dX3_lay_10 ?_
  refine lv_lconst (v := 0) hx hb dX3_lay_13 (by decide) ?_
  refine W.lcmp hx hb dX3_lay_14 ?_
  refine lv_if_eq (tgt := 22) hx hb dX3_lay_15 (by decide) (fun c_15 => ?_) (fun c_15 => ?_)
  · refine lv_iconst (v := 0) hx hb dX3_lay_22 (by decide) ?_
    exact ret_z C (Or.inl rfl) (F_X3_layRound (F_X3_sumSet st md p0)) (if_pos c_15) (hP.sub (ws' := [(h0, .inr (3, mdv ast aim akt (F_X3_layRound (F_X3_sumSet st md p0)))), (ast, .inl (cI, 23, .inl st))]) [1, 0] rfl) (hD.sub (ws' := [(h0, .inr (3, mdv ast aim akt (F_X3_layRound (F_X3_sumSet st md p0)))), (ast, .inl (cI, 23, .inl st))]) [1, 0] (by decide) rfl) hS dX3_lay_23
  · refine lv_iconst (v := 1) hx hb dX3_lay_18 (by decide) ?_
    refine lv_goto (tgt := 23) hx hb dX3_lay_19 (by decide) ?_
    exact ret_z C (Or.inr rfl) (F_X3_layRound (F_X3_sumSet st md p0)) (if_neg c_15) (hP.sub (ws' := [(h0, .inr (3, mdv ast aim akt (F_X3_layRound (F_X3_sumSet st md p0)))), (ast, .inl (cI, 23, .inl st))]) [1, 0] rfl) (hD.sub (ws' := [(h0, .inr (3, mdv ast aim akt (F_X3_layRound (F_X3_sumSet st md p0)))), (ast, .inl (cI, 23, .inl st))]) [1, 0] (by decide) rfl) hS dX3_lay_23
def F_X3_layTaken (st : Nat → Int32) (md : Rd) : Int32 × Rd := ((F_X3_lay st md (st 21)).1, (F_X3_lay st md (st 21)).2)
theorem lay01 (st : Nat → Int32) (md : Rd) (p : Int32) : (F_X3_lay st md p).1 = 0 ∨ (F_X3_lay st md p).1 = 1 := by
  unfold F_X3_lay
  split
  · exact Or.inl rfl
  · exact Or.inr rfl
theorem iX3_layTaken_X3 : ∀ w ∈ u_ws RX3 TX3 16, w ∈ wsX3_layTaken := fun _ h => List.mem_cons_of_mem _ (List.mem_append_right _ (h))
set_option maxHeartbeats 4000000 in
set_option maxRecDepth 100000 in
theorem c_X3_layTaken (l : Launch) (D : va_G) (cI cZ : ClassId) (h0 ast aim akt : Nat) (st : Nat → Int32) (md : Rd) (hm : MB st) : CTi l yX3_layTaken wsX3_layTaken ({ frames := 4, cells := 0, slots := 0, locals := 87 } : Room) D cI cZ [.ref h0] [(h0, .inr (3, mdv ast aim akt md)), (ast, .inl (cI, 23, .inl st))] (S := Rd) (fun z9 u9 => F_X3_layTaken st md = (z9, u9)) (fun u => [(h0, .inr (3, mdv ast aim akt u)), (ast, .inl (cI, 23, .inl st))]) := by
  refine enterM (cc := cX3_layTaken) (maxL := 1) (ret := (some .boolean)) (own := RX3) (Qc := fun A => va_Qi (S := Rd) (fun z9 u9 => F_X3_layTaken st md = (z9, u9)) (PoB (S := Rd) D A (fun u => [(h0, .inr (3, mdv ast aim akt u)), (ast, .inl (cI, 23, .inl st))])) A) (by decide) rfl rfl (Nat.le_of_ble_eq_true rfl) ?_
  intro p e s m below meth c A ls C hK hA hP hD hS hl
  have hx := C.1
  have hb := C.2.1
  have hown := C.2.2.2.1
  have hts := C.2.2.2.2.1
  have _huse := hts
  have hl : lv_has ls 1 [(0, .ref h0)] := hl
  refine lv_aload_n hx hb dX3_layTaken_0 rfl (lv_at hl 0 rfl) ?_
  refine lv_aload_n hx hb dX3_layTaken_1 rfl (lv_at hl 0 rfl) ?_
  refine va_get (D := D) (ci := 3) (v := .ref ast) (C := RX3) (T := TX3) (N := 16) hx hb hts iX3_layTaken_X3 hown hK.1 hP 0 rfl rfl 0 (by decide) (hts (.fieldLink RX3 7 "CompassBiasModel" "state" "[I") (List.mem_of_getElem? (i := 1) rfl)) (fun _ h9 => h9) rfl dX3_layTaken_2 ?_
  refine lv_bipush (v := 21) hx hb dX3_layTaken_5 (by decide) ?_
  refine va_iald hx hb hK.1 hP 1 0 rfl rfl (vp_lit (by decide)) dX3_layTaken_7 ?_
  refine W.eq (g2 := F0 m 8 ls [.int (st 21), .ref h0]) rfl ?_
  refine aft_i (wr := []) (run_V (As := [.int (st 21)]) (rest := []) C (c_X3_lay l D cI cZ h0 ast aim akt st md (st 21) hm) (cwV 1 hts gX3_layTaken_X3_lay rfl rfl rfl (by decide +kernel) ⟨Nat.le_of_ble_eq_true rfl, Nat.le_of_ble_eq_true rfl⟩) hK (hP.sub (ws' := [(h0, .inr (3, mdv ast aim akt md)), (ast, .inl (cI, 23, .inl st))]) [0, 1] rfl) (hD.sub (ws' := [(h0, .inr (3, mdv ast aim akt md)), (ast, .inl (cI, 23, .inl st))]) [0, 1] (by decide) rfl) 0 3 rfl rfl rfl rfl hl.1 rfl (Nat.le_of_ble_eq_true rfl) dX3_layTaken_8 (Nat.zero_le _) (Nat.zero_le _)) hP hD hS hA [0, 1] [] rfl rfl (by decide) (by decide) (fun z9 u9 H locs hw hP hD hS => ?_)
  obtain ⟨rfl, rfl⟩ : (F_X3_lay st md (st 21)).1 = z9 ∧ (F_X3_lay st md (st 21)).2 = u9 := by rw [hw]; exact ⟨rfl, rfl⟩
  have hP : va_P D classes [(h0, .inr (3, mdv ast aim akt ((F_X3_lay st md (st 21)).2))), (ast, .inl (cI, 23, .inl st))] H := hP
  have hD : va_D A [(h0, .inr (3, mdv ast aim akt ((F_X3_lay st md (st 21)).2))), (ast, .inl (cI, 23, .inl st))] := hD
  exact ret_z C (lay01 _ _ _) ((F_X3_lay st md (st 21)).2) rfl hP hD hS dX3_layTaken_11
def F_X3_offOf (st : Nat → Int32) (md : Rd) (p0 : Int32) : Int64 := (((((F_X3_power (st (0 + p0).toNatClampNeg) (st (10 + p0).toNatClampNeg)).toInt64) * md.2.2.2.2.2.2.2.2.2.2.2.2) - (md.2.2.2.2.2.2.2.2.2.1 * ((st (0 + p0).toNatClampNeg).toInt64))) - (md.2.2.2.2.2.2.2.2.2.2.1 * ((st (10 + p0).toNatClampNeg).toInt64))) - md.2.2.2.2.2.2.2.2.2.2.2.1
theorem iX3_offOf_X3 : ∀ w ∈ u_ws RX3 TX3 16, w ∈ wsX3_offOf := fun _ h => List.mem_cons_of_mem _ (List.mem_append_right _ (h))
set_option maxHeartbeats 4000000 in
set_option maxRecDepth 100000 in
theorem c_X3_offOf (l : Launch) (D : va_G) (cI cZ : ClassId) (h0 ast aim akt : Nat) (st : Nat → Int32) (md : Rd) (p0 : Int32) (hvx : vp_in (0 + p0) 23) (hvy : vp_in (10 + p0) 23) : CTl l yX3_offOf wsX3_offOf ({ frames := 1, cells := 0, slots := 0, locals := 21 } : Room) D cI cZ [.ref h0, .int p0] [(h0, .inr (3, mdv ast aim akt md)), (ast, .inl (cI, 23, .inl st))] (S := Unit) (fun z9 _ => F_X3_offOf st md p0 = z9) (fun _ => [(h0, .inr (3, mdv ast aim akt md)), (ast, .inl (cI, 23, .inl st))]) := by
  refine enterM (cc := cX3_offOf) (maxL := 4) (ret := (some .long)) (own := RX3) (Qc := fun A => va_Ql (S := Unit) (fun z9 _ => F_X3_offOf st md p0 = z9) (PoB (S := Unit) D A (fun _ => [(h0, .inr (3, mdv ast aim akt md)), (ast, .inl (cI, 23, .inl st))])) A) (by decide) rfl rfl (Nat.le_of_ble_eq_true rfl) ?_
  intro p e s m below meth c A ls C hK hA hP hD hS hl
  have hx := C.1
  have hb := C.2.1
  have hown := C.2.2.2.1
  have hts := C.2.2.2.2.1
  have _huse := hts
  have hl : lv_has ls 4 [(0, .ref h0), (1, .int p0)] := hl
  refine lv_aload_n hx hb dX3_offOf_0 rfl (lv_at hl 0 rfl) ?_
  refine va_get (D := D) (ci := 3) (v := .ref ast) (C := RX3) (T := TX3) (N := 16) hx hb hts iX3_offOf_X3 hown hK.1 hP 0 rfl rfl 0 (by decide) (hts (.fieldLink RX3 7 "CompassBiasModel" "state" "[I") (List.mem_of_getElem? (i := 1) rfl)) (fun _ h9 => h9) rfl dX3_offOf_1 ?_
  refine lv_iconst (v := 0) hx hb dX3_offOf_4 (by decide) ?_
  refine lv_iload_n hx hb dX3_offOf_5 rfl (lv_at hl 1 rfl) ?_
  refine lv_iadd hx hb dX3_offOf_6 ?_
  refine va_iald hx hb hK.1 hP 1 0 rfl rfl hvx dX3_offOf_7 ?_
  refine lv_istore_n (lv' := [(2, .int (st (0 + p0).toNatClampNeg)), (0, .ref h0), (1, .int p0)]) hx hb dX3_offOf_8 rfl hl (by decide) rfl (fun ls hl => ?_)
  refine lv_aload_n hx hb dX3_offOf_9 rfl (lv_at hl 1 rfl) ?_
  refine va_get (D := D) (ci := 3) (v := .ref ast) (C := RX3) (T := TX3) (N := 16) hx hb hts iX3_offOf_X3 hown hK.1 hP 0 rfl rfl 0 (by decide) (hts (.fieldLink RX3 7 "CompassBiasModel" "state" "[I") (List.mem_of_getElem? (i := 1) rfl)) (fun _ h9 => h9) rfl dX3_offOf_10 ?_
  refine lv_bipush (v := 10) hx hb dX3_offOf_13 (by decide) ?_
  refine lv_iload_n hx hb dX3_offOf_15 rfl (lv_at hl 2 rfl) ?_
  refine lv_iadd hx hb dX3_offOf_16 ?_
  refine va_iald hx hb hK.1 hP 1 0 rfl rfl hvy dX3_offOf_17 ?_
  refine lv_istore_n (lv' := [(3, .int (st (10 + p0).toNatClampNeg)), (2, .int (st (0 + p0).toNatClampNeg)), (0, .ref h0), (1, .int p0)]) hx hb dX3_offOf_18 rfl hl (by decide) rfl (fun ls hl => ?_)
  refine lv_iload_n hx hb dX3_offOf_19 rfl (lv_at hl 1 rfl) ?_
  refine lv_iload_n hx hb dX3_offOf_20 rfl (lv_at hl 0 rfl) ?_
  refine aft_i (wr := [(h0, .inr (3, mdv ast aim akt md)), (ast, .inl (cI, 23, .inl st))]) (run_S (As := [.int (st (0 + p0).toNatClampNeg), .int (st (10 + p0).toNatClampNeg)]) (rest := []) C (c_X3_power l D cI cZ (st (0 + p0).toNatClampNeg) (st (10 + p0).toNatClampNeg)) (va_cwS 2 hts gX3_offOf_X3_power rfl rfl rfl (by decide +kernel) ⟨Nat.le_of_ble_eq_true rfl, Nat.le_of_ble_eq_true rfl⟩) hK (hP.sub (ws' := []) [] rfl) (hD.sub (ws' := []) [] (by decide) rfl) rfl hl.1 rfl (Nat.le_of_ble_eq_true rfl) dX3_offOf_21 (Nat.zero_le _) (Nat.zero_le _)) hP hD hS hA [] [0, 1] rfl rfl (by decide) (by decide) (fun z9 u9 H locs hw hP hD hS => ?_)
  subst hw
  have hP : va_P D classes [(h0, .inr (3, mdv ast aim akt md)), (ast, .inl (cI, 23, .inl st))] H := hP
  have hD : va_D A [(h0, .inr (3, mdv ast aim akt md)), (ast, .inl (cI, 23, .inl st))] := hD
  refine lv_i2l (v := (F_X3_power (st (0 + p0).toNatClampNeg) (st (10 + p0).toNatClampNeg)).toInt64) hx hb dX3_offOf_24 rfl ?_
  refine lv_aload_n hx hb dX3_offOf_25 rfl (lv_at hl 2 rfl) ?_
  refine va_get (D := D) (ci := 3) (v := .long md.2.2.2.2.2.2.2.2.2.2.2.2) (C := RX3) (T := TX3) (N := 16) hx hb hts iX3_offOf_X3 hown hK.1 hP 0 rfl rfl 15 (by decide) (hts (.fieldLink RX3 80 "CompassBiasModel" "by" "J") (List.mem_of_getElem? (i := 2) rfl)) (fun _ h9 => h9) rfl dX3_offOf_26 ?_
  refine lv_lmul hx hb dX3_offOf_29 ?_
  refine lv_aload_n hx hb dX3_offOf_30 rfl (lv_at hl 2 rfl) ?_
  refine va_get (D := D) (ci := 3) (v := .long md.2.2.2.2.2.2.2.2.2.1) (C := RX3) (T := TX3) (N := 16) hx hb hts iX3_offOf_X3 hown hK.1 hP 0 rfl rfl 12 (by decide) (hts (.fieldLink RX3 83 "CompassBiasModel" "a" "J") (List.mem_of_getElem? (i := 3) rfl)) (fun _ h9 => h9) rfl dX3_offOf_31 ?_
  refine lv_iload_n hx hb dX3_offOf_34 rfl (lv_at hl 1 rfl) ?_
  refine lv_i2l (v := (st (0 + p0).toNatClampNeg).toInt64) hx hb dX3_offOf_35 rfl ?_
  refine lv_lmul hx hb dX3_offOf_36 ?_
  refine lv_lsub hx hb dX3_offOf_37 ?_
  refine lv_aload_n hx hb dX3_offOf_38 rfl (lv_at hl 2 rfl) ?_
  refine va_get (D := D) (ci := 3) (v := .long md.2.2.2.2.2.2.2.2.2.2.1) (C := RX3) (T := TX3) (N := 16) hx hb hts iX3_offOf_X3 hown hK.1 hP 0 rfl rfl 13 (by decide) (hts (.fieldLink RX3 86 "CompassBiasModel" "b" "J") (List.mem_of_getElem? (i := 4) rfl)) (fun _ h9 => h9) rfl dX3_offOf_39 ?_
  refine lv_iload_n hx hb dX3_offOf_42 rfl (lv_at hl 0 rfl) ?_
  refine lv_i2l (v := (st (10 + p0).toNatClampNeg).toInt64) hx hb dX3_offOf_43 rfl ?_
  refine lv_lmul hx hb dX3_offOf_44 ?_
  refine lv_lsub hx hb dX3_offOf_45 ?_
  refine lv_aload_n hx hb dX3_offOf_46 rfl (lv_at hl 2 rfl) ?_
  refine va_get (D := D) (ci := 3) (v := .long md.2.2.2.2.2.2.2.2.2.2.2.1) (C := RX3) (T := TX3) (N := 16) hx hb hts iX3_offOf_X3 hown hK.1 hP 0 rfl rfl 14 (by decide) (hts (.fieldLink RX3 89 "CompassBiasModel" "c" "J") (List.mem_of_getElem? (i := 5) rfl)) (fun _ h9 => h9) rfl dX3_offOf_47 ?_
  refine lv_lsub hx hb dX3_offOf_50 ?_
  exact ret_l C () rfl hP hD hS dX3_offOf_51
def L_X3_worstOf_5 (st : Nat → Int32) (md : Rd) (p0 : Int32) : Nat → Int32 → Int32 → Int32
  | 0, _, _ => 0
  | n + 1, w, i => if (st 20) ≤ i then (w) else (if ((p0 >>> (i &&& 31)) &&& 1) = 1 then (if w < 0 then (L_X3_worstOf_5 st md p0 n i (i + 1)) else (if (lg_cmp (F_X3_plain (F_X3_offOf st md i)) (F_X3_plain (F_X3_offOf st md w))) ≤ 0 then (L_X3_worstOf_5 st md p0 n w (i + 1)) else (L_X3_worstOf_5 st md p0 n i (i + 1)))) else (L_X3_worstOf_5 st md p0 n w (i + 1)))
def F_X3_worstOf (st : Nat → Int32) (md : Rd) (p0 : Int32) : Int32 := L_X3_worstOf_5 st md p0 11 (-6) 0
theorem iX3_worstOf_X3 : ∀ w ∈ u_ws RX3 TX3 16, w ∈ wsX3_worstOf := fun _ h => List.mem_cons_of_mem _ (List.mem_append_right _ (h))
set_option maxHeartbeats 4000000 in
set_option maxRecDepth 100000 in
theorem c_X3_worstOf (l : Launch) (D : va_G) (cI cZ : ClassId) (h0 ast aim akt : Nat) (st : Nat → Int32) (md : Rd) (p0 : Int32) (hm : MB st) : CTi l yX3_worstOf wsX3_worstOf ({ frames := 2, cells := 0, slots := 0, locals := 44 } : Room) D cI cZ [.ref h0, .int p0] [(h0, .inr (3, mdv ast aim akt md)), (ast, .inl (cI, 23, .inl st))] (S := Unit) (fun z9 _ => F_X3_worstOf st md p0 = z9) (fun _ => [(h0, .inr (3, mdv ast aim akt md)), (ast, .inl (cI, 23, .inl st))]) := by
  refine enterM (cc := cX3_worstOf) (maxL := 4) (ret := (some .int)) (own := RX3) (Qc := fun A => va_Qi (S := Unit) (fun z9 _ => F_X3_worstOf st md p0 = z9) (PoB (S := Unit) D A (fun _ => [(h0, .inr (3, mdv ast aim akt md)), (ast, .inl (cI, 23, .inl st))])) A) (by decide) rfl rfl (Nat.le_of_ble_eq_true rfl) ?_
  intro p e s m below meth c A ls C hK hA hP hD hS hl
  have hx := C.1
  have hb := C.2.1
  have hown := C.2.2.2.1
  have hts := C.2.2.2.2.1
  have _huse := hts
  have K5 : ∀ (n : Nat) (k : Nat) (w : Int32) (i : Int32) (_ : i.toInt = (k : Int)) (_ : k ≤ 10) (_ : 10 < k + n) (_ : w.toInt < 10) (X : Int32) (_ : X = L_X3_worstOf_5 st md p0 n w i) (H : Heap) (locs : List Loc) (_ : va_P D classes [(h0, .inr (3, mdv ast aim akt md)), (ast, .inl (cI, 23, .inl st))] H) (_ : va_D A [(h0, .inr (3, mdv ast aim akt md)), (ast, .inl (cI, 23, .inl st))]) (_ : va_S A s.heap H locs) (ls : Array Slot) (_ : lv_has ls 4 [(0, .ref h0), (1, .int p0), (2, .int w), (3, .int i)]), W p l e ({ frames := 2, cells := 0, slots := 0, locals := 44 } : Room) s m [.ref h0, .int p0].toArray below meth c H locs 0 0 (MQ below (va_Qi (S := Unit) (fun z9 _ => X = z9) (PoB (S := Unit) D A (fun _ => [(h0, .inr (3, mdv ast aim akt md)), (ast, .inl (cI, 23, .inl st))])) A) [.ref h0, .int p0].toArray s 0 0 A) (F0 m 5 ls []) := by
    intro n
    induction n with
    | zero =>
      intro k w i hi hk hfu hw9 X hX H locs hP hD hS ls hl
      exact absurd hfu (by omega)
    | succ n ih =>
      intro k w i hi hk hfu hw9 X hX H locs hP hD hS ls hl
      refine lv_iload_n hx hb dX3_worstOf_5 rfl (lv_at hl 3 rfl) ?_
      refine lv_aload_n hx hb dX3_worstOf_6 rfl (lv_at hl 0 rfl) ?_
      refine va_get (D := D) (ci := 3) (v := .ref ast) (C := RX3) (T := TX3) (N := 16) hx hb hts iX3_worstOf_X3 hown hK.1 hP 0 rfl rfl 0 (by decide) (hts (.fieldLink RX3 7 "CompassBiasModel" "state" "[I") (List.mem_of_getElem? (i := 1) rfl)) (fun _ h9 => h9) rfl dX3_worstOf_7 ?_
      refine lv_bipush (v := 20) hx hb dX3_worstOf_10 (by decide) ?_
      refine va_iald hx hb hK.1 hP 1 0 rfl rfl (vp_lit (by decide)) dX3_worstOf_12 ?_
      refine W.eq (g2 := F0 m 13 ls [.int (st 20), .int i]) rfl ?_
      refine lv_icmp_ge (tgt := 57) hx hb dX3_worstOf_13 (by decide) (fun c_13 => ?_) (fun c_13 => ?_)
      · refine lv_iload_n hx hb dX3_worstOf_57 rfl (lv_at hl 2 rfl) ?_
        exact ret_i C () (hX.trans ((if_pos c_13))) hP hD hS dX3_worstOf_58
      · refine lv_iload_n hx hb dX3_worstOf_16 rfl (lv_at hl 1 rfl) ?_
        refine lv_iload_n hx hb dX3_worstOf_17 rfl (lv_at hl 3 rfl) ?_
        refine lv_ishr hx hb dX3_worstOf_18 ?_
        refine lv_iconst (v := 1) hx hb dX3_worstOf_19 (by decide) ?_
        refine lv_iand hx hb dX3_worstOf_20 ?_
        refine lv_iconst (v := 1) hx hb dX3_worstOf_21 (by decide) ?_
        refine lv_icmp_ne (tgt := 51) hx hb dX3_worstOf_22 (by decide) (fun c_22 => ?_) (fun c_22 => ?_)
        · refine lv_iinc (v := i + 1) (lv' := [(3, .int (i + 1)), (0, .ref h0), (1, .int p0), (2, .int w)]) hx hb dX3_worstOf_51 hl (k := 3) rfl rfl (by decide) rfl (fun ls hl => ?_)
          refine lv_goto (tgt := 5) hx hb dX3_worstOf_54 (by decide) ?_
          exact ih (k + 1) w (i + 1) (i_succ hi (by omega)) (i_ltM hm hi c_13) (by omega) hw9 X (hX.trans ((if_neg c_13).trans ((if_neg c_22)))) _ _ hP hD hS _ (lv_sub hl [1, 2, 3, 0] rfl)
        · refine lv_iload_n hx hb dX3_worstOf_25 rfl (lv_at hl 2 rfl) ?_
          refine lv_if_lt (tgt := 49) hx hb dX3_worstOf_26 (by decide) (fun c_26 => ?_) (fun c_26 => ?_)
          · refine lv_iload_n hx hb dX3_worstOf_49 rfl (lv_at hl 3 rfl) ?_
            refine lv_istore_n (lv' := [(2, .int i), (0, .ref h0), (1, .int p0), (3, .int i)]) hx hb dX3_worstOf_50 rfl hl (by decide) rfl (fun ls hl => ?_)
            refine lv_iinc (v := i + 1) (lv' := [(3, .int (i + 1)), (2, .int i), (0, .ref h0), (1, .int p0)]) hx hb dX3_worstOf_51 hl (k := 3) rfl rfl (by decide) rfl (fun ls hl => ?_)
            refine lv_goto (tgt := 5) hx hb dX3_worstOf_54 (by decide) ?_
            exact ih (k + 1) i (i + 1) (i_succ hi (by omega)) (i_ltM hm hi c_13) (by omega) (i_lt9 hi (i_ltM hm hi c_13)) X (hX.trans ((if_neg c_13).trans ((if_pos c_22).trans ((if_pos c_26))))) _ _ hP hD hS _ (lv_sub hl [2, 3, 1, 0] rfl)
          · refine lv_aload_n hx hb dX3_worstOf_29 rfl (lv_at hl 0 rfl) ?_
            refine lv_iload_n hx hb dX3_worstOf_30 rfl (lv_at hl 3 rfl) ?_
            refine aft_l (wr := []) (run_V (As := [.int i]) (rest := []) C (c_X3_offOf l D cI cZ h0 ast aim akt st md i (vp_x hi (i_ltM hm hi c_13)) (vp_y hi (i_ltM hm hi c_13))) (cwV 1 hts gX3_worstOf_X3_offOf rfl rfl rfl (by decide +kernel) ⟨Nat.le_of_ble_eq_true rfl, Nat.le_of_ble_eq_true rfl⟩) hK (hP.sub (ws' := [(h0, .inr (3, mdv ast aim akt md)), (ast, .inl (cI, 23, .inl st))]) [0, 1] rfl) (hD.sub (ws' := [(h0, .inr (3, mdv ast aim akt md)), (ast, .inl (cI, 23, .inl st))]) [0, 1] (by decide) rfl) 0 3 rfl rfl rfl rfl hl.1 rfl (Nat.le_of_ble_eq_true rfl) dX3_worstOf_31 (Nat.zero_le _) (Nat.zero_le _)) hP hD hS hA [0, 1] [] rfl rfl (by decide) (by decide) (fun z9 u9 H locs hw hP hD hS => ?_)
            subst hw
            have hP : va_P D classes [(h0, .inr (3, mdv ast aim akt md)), (ast, .inl (cI, 23, .inl st))] H := hP
            have hD : va_D A [(h0, .inr (3, mdv ast aim akt md)), (ast, .inl (cI, 23, .inl st))] := hD
            refine aft_l (wr := [(h0, .inr (3, mdv ast aim akt md)), (ast, .inl (cI, 23, .inl st))]) (run_S (As := [.long (F_X3_offOf st md i)]) (rest := []) C (c_X3_plain l D cI cZ (F_X3_offOf st md i)) (va_cwS 1 hts gX3_worstOf_X3_plain rfl rfl rfl (by decide +kernel) ⟨Nat.le_of_ble_eq_true rfl, Nat.le_of_ble_eq_true rfl⟩) hK (hP.sub (ws' := []) [] rfl) (hD.sub (ws' := []) [] (by decide) rfl) rfl hl.1 rfl (Nat.le_of_ble_eq_true rfl) dX3_worstOf_34 (Nat.zero_le _) (Nat.zero_le _)) hP hD hS hA [] [0, 1] rfl rfl (by decide) (by decide) (fun z9 u9 H locs hw hP hD hS => ?_)
            subst hw
            have hP : va_P D classes [(h0, .inr (3, mdv ast aim akt md)), (ast, .inl (cI, 23, .inl st))] H := hP
            have hD : va_D A [(h0, .inr (3, mdv ast aim akt md)), (ast, .inl (cI, 23, .inl st))] := hD
            refine lv_aload_n hx hb dX3_worstOf_37 rfl (lv_at hl 0 rfl) ?_
            refine lv_iload_n hx hb dX3_worstOf_38 rfl (lv_at hl 2 rfl) ?_
            refine aft_l (wr := []) (run_V (As := [.int w]) (rest := [.long (F_X3_plain (F_X3_offOf st md i))]) C (c_X3_offOf l D cI cZ h0 ast aim akt st md w (vp_xw c_26 hw9) (vp_yw c_26 hw9)) (cwV 1 hts gX3_worstOf_X3_offOf rfl rfl rfl (by decide +kernel) ⟨Nat.le_of_ble_eq_true rfl, Nat.le_of_ble_eq_true rfl⟩) hK (hP.sub (ws' := [(h0, .inr (3, mdv ast aim akt md)), (ast, .inl (cI, 23, .inl st))]) [0, 1] rfl) (hD.sub (ws' := [(h0, .inr (3, mdv ast aim akt md)), (ast, .inl (cI, 23, .inl st))]) [0, 1] (by decide) rfl) 0 3 rfl rfl rfl rfl hl.1 rfl (Nat.le_of_ble_eq_true rfl) dX3_worstOf_39 (Nat.zero_le _) (Nat.zero_le _)) hP hD hS hA [0, 1] [] rfl rfl (by decide) (by decide) (fun z9 u9 H locs hw hP hD hS => ?_)
            subst hw
            have hP : va_P D classes [(h0, .inr (3, mdv ast aim akt md)), (ast, .inl (cI, 23, .inl st))] H := hP
            have hD : va_D A [(h0, .inr (3, mdv ast aim akt md)), (ast, .inl (cI, 23, .inl st))] := hD
            refine aft_l (wr := [(h0, .inr (3, mdv ast aim akt md)), (ast, .inl (cI, 23, .inl st))]) (run_S (As := [.long (F_X3_offOf st md w)]) (rest := [.long (F_X3_plain (F_X3_offOf st md i))]) C (c_X3_plain l D cI cZ (F_X3_offOf st md w)) (va_cwS 1 hts gX3_worstOf_X3_plain rfl rfl rfl (by decide +kernel) ⟨Nat.le_of_ble_eq_true rfl, Nat.le_of_ble_eq_true rfl⟩) hK (hP.sub (ws' := []) [] rfl) (hD.sub (ws' := []) [] (by decide) rfl) rfl hl.1 rfl (Nat.le_of_ble_eq_true rfl) dX3_worstOf_42 (Nat.zero_le _) (Nat.zero_le _)) hP hD hS hA [] [0, 1] rfl rfl (by decide) (by decide) (fun z9 u9 H locs hw hP hD hS => ?_)
            subst hw
            have hP : va_P D classes [(h0, .inr (3, mdv ast aim akt md)), (ast, .inl (cI, 23, .inl st))] H := hP
            have hD : va_D A [(h0, .inr (3, mdv ast aim akt md)), (ast, .inl (cI, 23, .inl st))] := hD
            refine W.lcmp hx hb dX3_worstOf_45 ?_
            refine lv_if_le (tgt := 51) hx hb dX3_worstOf_46 (by decide) (fun c_46 => ?_) (fun c_46 => ?_)
            · refine lv_iinc (v := i + 1) (lv' := [(3, .int (i + 1)), (0, .ref h0), (1, .int p0), (2, .int w)]) hx hb dX3_worstOf_51 hl (k := 3) rfl rfl (by decide) rfl (fun ls hl => ?_)
              refine lv_goto (tgt := 5) hx hb dX3_worstOf_54 (by decide) ?_
              exact ih (k + 1) w (i + 1) (i_succ hi (by omega)) (i_ltM hm hi c_13) (by omega) hw9 X (hX.trans ((if_neg c_13).trans ((if_pos c_22).trans ((if_neg c_26).trans ((if_pos c_46)))))) _ _ hP hD hS _ (lv_sub hl [1, 2, 3, 0] rfl)
            · refine lv_iload_n hx hb dX3_worstOf_49 rfl (lv_at hl 3 rfl) ?_
              refine lv_istore_n (lv' := [(2, .int i), (0, .ref h0), (1, .int p0), (3, .int i)]) hx hb dX3_worstOf_50 rfl hl (by decide) rfl (fun ls hl => ?_)
              refine lv_iinc (v := i + 1) (lv' := [(3, .int (i + 1)), (2, .int i), (0, .ref h0), (1, .int p0)]) hx hb dX3_worstOf_51 hl (k := 3) rfl rfl (by decide) rfl (fun ls hl => ?_)
              refine lv_goto (tgt := 5) hx hb dX3_worstOf_54 (by decide) ?_
              exact ih (k + 1) i (i + 1) (i_succ hi (by omega)) (i_ltM hm hi c_13) (by omega) (i_lt9 hi (i_ltM hm hi c_13)) X (hX.trans ((if_neg c_13).trans ((if_pos c_22).trans ((if_neg c_26).trans ((if_neg c_46)))))) _ _ hP hD hS _ (lv_sub hl [2, 3, 1, 0] rfl)
  have hl : lv_has ls 4 [(0, .ref h0), (1, .int p0)] := hl
  refine lv_bipush (v := (-6)) hx hb dX3_worstOf_0 (by decide) ?_
  refine lv_istore_n (lv' := [(2, .int (-6)), (0, .ref h0), (1, .int p0)]) hx hb dX3_worstOf_2 rfl hl (by decide) rfl (fun ls hl => ?_)
  refine lv_iconst (v := 0) hx hb dX3_worstOf_3 (by decide) ?_
  refine lv_istore_n (lv' := [(3, .int 0), (2, .int (-6)), (0, .ref h0), (1, .int p0)]) hx hb dX3_worstOf_4 rfl hl (by decide) rfl (fun ls hl => ?_)
  exact K5 11 0 (-6) 0 rfl (by omega) (by omega) (by decide) (F_X3_worstOf st md p0) rfl _ _ hP hD hS _ (lv_sub hl [2, 3, 1, 0] rfl)
def F_X3_eighthAt (md : Rd) (p0 : Int32) (p1 : Int32) : Int32 := F_X3_eighthOf (((2 * md.2.2.2.2.2.2.2.2.2.2.2.2) * p0.toInt64) - md.2.2.2.2.2.2.2.2.2.1) (((2 * md.2.2.2.2.2.2.2.2.2.2.2.2) * p1.toInt64) - md.2.2.2.2.2.2.2.2.2.2.1)
theorem iX3_eighthAt_X3 : ∀ w ∈ u_ws RX3 TX3 16, w ∈ wsX3_eighthAt := fun _ h => List.mem_cons_of_mem _ (List.mem_append_right _ (h))
set_option maxHeartbeats 4000000 in
set_option maxRecDepth 100000 in
theorem c_X3_eighthAt (l : Launch) (D : va_G) (cI cZ : ClassId) (h0 ast aim akt : Nat) (md : Rd) (p0 : Int32) (p1 : Int32) : CTi l yX3_eighthAt wsX3_eighthAt ({ frames := 1, cells := 0, slots := 0, locals := 23 } : Room) D cI cZ [.ref h0, .int p0, .int p1] [(h0, .inr (3, mdv ast aim akt md))] (S := Unit) (fun z9 _ => F_X3_eighthAt md p0 p1 = z9) (fun _ => [(h0, .inr (3, mdv ast aim akt md))]) := by
  refine enterM (cc := cX3_eighthAt) (maxL := 3) (ret := (some .int)) (own := RX3) (Qc := fun A => va_Qi (S := Unit) (fun z9 _ => F_X3_eighthAt md p0 p1 = z9) (PoB (S := Unit) D A (fun _ => [(h0, .inr (3, mdv ast aim akt md))])) A) (by decide) rfl rfl (Nat.le_of_ble_eq_true rfl) ?_
  intro p e s m below meth c A ls C hK hA hP hD hS hl
  have hx := C.1
  have hb := C.2.1
  have hown := C.2.2.2.1
  have hts := C.2.2.2.2.1
  have _huse := hts
  have hl : lv_has ls 3 [(0, .ref h0), (1, .int p0), (2, .int p1)] := hl
  refine lv_ldc2 (v := 2) hx hb hown (hts (.constantLong RX3 110 (2)) (List.mem_of_getElem? (i := 1) rfl)) dX3_eighthAt_0 ?_
  refine lv_aload_n hx hb dX3_eighthAt_3 rfl (lv_at hl 0 rfl) ?_
  refine va_get (D := D) (ci := 3) (v := .long md.2.2.2.2.2.2.2.2.2.2.2.2) (C := RX3) (T := TX3) (N := 16) hx hb hts iX3_eighthAt_X3 hown hK.1 hP 0 rfl rfl 15 (by decide) (hts (.fieldLink RX3 80 "CompassBiasModel" "by" "J") (List.mem_of_getElem? (i := 2) rfl)) (fun _ h9 => h9) rfl dX3_eighthAt_4 ?_
  refine lv_lmul hx hb dX3_eighthAt_7 ?_
  refine lv_iload_n hx hb dX3_eighthAt_8 rfl (lv_at hl 1 rfl) ?_
  refine lv_i2l (v := p0.toInt64) hx hb dX3_eighthAt_9 rfl ?_
  refine lv_lmul hx hb dX3_eighthAt_10 ?_
  refine lv_aload_n hx hb dX3_eighthAt_11 rfl (lv_at hl 0 rfl) ?_
  refine va_get (D := D) (ci := 3) (v := .long md.2.2.2.2.2.2.2.2.2.1) (C := RX3) (T := TX3) (N := 16) hx hb hts iX3_eighthAt_X3 hown hK.1 hP 0 rfl rfl 12 (by decide) (hts (.fieldLink RX3 83 "CompassBiasModel" "a" "J") (List.mem_of_getElem? (i := 3) rfl)) (fun _ h9 => h9) rfl dX3_eighthAt_12 ?_
  refine lv_lsub hx hb dX3_eighthAt_15 ?_
  refine lv_ldc2 (v := 2) hx hb hown (hts (.constantLong RX3 110 (2)) (List.mem_of_getElem? (i := 1) rfl)) dX3_eighthAt_16 ?_
  refine lv_aload_n hx hb dX3_eighthAt_19 rfl (lv_at hl 0 rfl) ?_
  refine va_get (D := D) (ci := 3) (v := .long md.2.2.2.2.2.2.2.2.2.2.2.2) (C := RX3) (T := TX3) (N := 16) hx hb hts iX3_eighthAt_X3 hown hK.1 hP 0 rfl rfl 15 (by decide) (hts (.fieldLink RX3 80 "CompassBiasModel" "by" "J") (List.mem_of_getElem? (i := 2) rfl)) (fun _ h9 => h9) rfl dX3_eighthAt_20 ?_
  refine lv_lmul hx hb dX3_eighthAt_23 ?_
  refine lv_iload_n hx hb dX3_eighthAt_24 rfl (lv_at hl 2 rfl) ?_
  refine lv_i2l (v := p1.toInt64) hx hb dX3_eighthAt_25 rfl ?_
  refine lv_lmul hx hb dX3_eighthAt_26 ?_
  refine lv_aload_n hx hb dX3_eighthAt_27 rfl (lv_at hl 0 rfl) ?_
  refine va_get (D := D) (ci := 3) (v := .long md.2.2.2.2.2.2.2.2.2.2.1) (C := RX3) (T := TX3) (N := 16) hx hb hts iX3_eighthAt_X3 hown hK.1 hP 0 rfl rfl 13 (by decide) (hts (.fieldLink RX3 86 "CompassBiasModel" "b" "J") (List.mem_of_getElem? (i := 4) rfl)) (fun _ h9 => h9) rfl dX3_eighthAt_28 ?_
  refine lv_lsub hx hb dX3_eighthAt_31 ?_
  refine aft_i (wr := [(h0, .inr (3, mdv ast aim akt md))]) (run_S (As := [.long (((2 * md.2.2.2.2.2.2.2.2.2.2.2.2) * p0.toInt64) - md.2.2.2.2.2.2.2.2.2.1), .long (((2 * md.2.2.2.2.2.2.2.2.2.2.2.2) * p1.toInt64) - md.2.2.2.2.2.2.2.2.2.2.1)]) (rest := []) C (c_X3_eighthOf l D cI cZ (((2 * md.2.2.2.2.2.2.2.2.2.2.2.2) * p0.toInt64) - md.2.2.2.2.2.2.2.2.2.1) (((2 * md.2.2.2.2.2.2.2.2.2.2.2.2) * p1.toInt64) - md.2.2.2.2.2.2.2.2.2.2.1)) (va_cwS 2 hts gX3_eighthAt_X3_eighthOf rfl rfl rfl (by decide +kernel) ⟨Nat.le_of_ble_eq_true rfl, Nat.le_of_ble_eq_true rfl⟩) hK (hP.sub (ws' := []) [] rfl) (hD.sub (ws' := []) [] (by decide) rfl) rfl hl.1 rfl (Nat.le_of_ble_eq_true rfl) dX3_eighthAt_32 (Nat.zero_le _) (Nat.zero_le _)) hP hD hS hA [] [0] rfl rfl (by decide) (by decide) (fun z9 u9 H locs hw hP hD hS => ?_)
  subst hw
  have hP : va_P D classes [(h0, .inr (3, mdv ast aim akt md))] H := hP
  have hD : va_D A [(h0, .inr (3, mdv ast aim akt md))] := hD
  exact ret_i C () rfl hP hD hS dX3_eighthAt_35
def L_X3_coverOf_4 (st : Nat → Int32) (md : Rd) (p0 : Int32) : Nat → Int32 → Int32 → Int32
  | 0, _, _ => 0
  | n + 1, v, i => if (st 20) ≤ i then (v) else (if ((p0 >>> (i &&& 31)) &&& 1) = 1 then (L_X3_coverOf_4 st md p0 n (v ||| (F_X3_bit (F_X3_eighthAt md (st (0 + i).toNatClampNeg) (st (10 + i).toNatClampNeg)))) (i + 1)) else (L_X3_coverOf_4 st md p0 n (v ||| 0) (i + 1)))
def F_X3_coverOf (st : Nat → Int32) (md : Rd) (p0 : Int32) : Int32 := L_X3_coverOf_4 st md p0 11 0 0
theorem iX3_coverOf_X3 : ∀ w ∈ u_ws RX3 TX3 16, w ∈ wsX3_coverOf := fun _ h => List.mem_cons_of_mem _ (List.mem_append_right _ (h))
set_option maxHeartbeats 4000000 in
set_option maxRecDepth 100000 in
theorem c_X3_coverOf (l : Launch) (D : va_G) (cI cZ : ClassId) (h0 ast aim akt : Nat) (st : Nat → Int32) (md : Rd) (p0 : Int32) (hm : MB st) : CTi l yX3_coverOf wsX3_coverOf ({ frames := 2, cells := 0, slots := 0, locals := 45 } : Room) D cI cZ [.ref h0, .int p0] [(h0, .inr (3, mdv ast aim akt md)), (ast, .inl (cI, 23, .inl st))] (S := Unit) (fun z9 _ => F_X3_coverOf st md p0 = z9) (fun _ => [(h0, .inr (3, mdv ast aim akt md)), (ast, .inl (cI, 23, .inl st))]) := by
  refine enterM (cc := cX3_coverOf) (maxL := 4) (ret := (some .int)) (own := RX3) (Qc := fun A => va_Qi (S := Unit) (fun z9 _ => F_X3_coverOf st md p0 = z9) (PoB (S := Unit) D A (fun _ => [(h0, .inr (3, mdv ast aim akt md)), (ast, .inl (cI, 23, .inl st))])) A) (by decide) rfl rfl (Nat.le_of_ble_eq_true rfl) ?_
  intro p e s m below meth c A ls C hK hA hP hD hS hl
  have hx := C.1
  have hb := C.2.1
  have hown := C.2.2.2.1
  have hts := C.2.2.2.2.1
  have _huse := hts
  have K4 : ∀ (n : Nat) (k : Nat) (v : Int32) (i : Int32) (_ : i.toInt = (k : Int)) (_ : k ≤ 10) (_ : 10 < k + n) (X : Int32) (_ : X = L_X3_coverOf_4 st md p0 n v i) (H : Heap) (locs : List Loc) (_ : va_P D classes [(h0, .inr (3, mdv ast aim akt md)), (ast, .inl (cI, 23, .inl st))] H) (_ : va_D A [(h0, .inr (3, mdv ast aim akt md)), (ast, .inl (cI, 23, .inl st))]) (_ : va_S A s.heap H locs) (ls : Array Slot) (_ : lv_has ls 4 [(0, .ref h0), (1, .int p0), (2, .int v), (3, .int i)]), W p l e ({ frames := 2, cells := 0, slots := 0, locals := 45 } : Room) s m [.ref h0, .int p0].toArray below meth c H locs 0 0 (MQ below (va_Qi (S := Unit) (fun z9 _ => X = z9) (PoB (S := Unit) D A (fun _ => [(h0, .inr (3, mdv ast aim akt md)), (ast, .inl (cI, 23, .inl st))])) A) [.ref h0, .int p0].toArray s 0 0 A) (F0 m 4 ls []) := by
    intro n
    induction n with
    | zero =>
      intro k v i hi hk hfu X hX H locs hP hD hS ls hl
      exact absurd hfu (by omega)
    | succ n ih =>
      intro k v i hi hk hfu X hX H locs hP hD hS ls hl
      refine lv_iload_n hx hb dX3_coverOf_4 rfl (lv_at hl 3 rfl) ?_
      refine lv_aload_n hx hb dX3_coverOf_5 rfl (lv_at hl 0 rfl) ?_
      refine va_get (D := D) (ci := 3) (v := .ref ast) (C := RX3) (T := TX3) (N := 16) hx hb hts iX3_coverOf_X3 hown hK.1 hP 0 rfl rfl 0 (by decide) (hts (.fieldLink RX3 7 "CompassBiasModel" "state" "[I") (List.mem_of_getElem? (i := 1) rfl)) (fun _ h9 => h9) rfl dX3_coverOf_6 ?_
      refine lv_bipush (v := 20) hx hb dX3_coverOf_9 (by decide) ?_
      refine va_iald hx hb hK.1 hP 1 0 rfl rfl (vp_lit (by decide)) dX3_coverOf_11 ?_
      refine W.eq (g2 := F0 m 12 ls [.int (st 20), .int i]) rfl ?_
      refine lv_icmp_ge (tgt := 61) hx hb dX3_coverOf_12 (by decide) (fun c_12 => ?_) (fun c_12 => ?_)
      · refine lv_iload_n hx hb dX3_coverOf_61 rfl (lv_at hl 2 rfl) ?_
        exact ret_i C () (hX.trans ((if_pos c_12))) hP hD hS dX3_coverOf_62
      · refine lv_iload_n hx hb dX3_coverOf_15 rfl (lv_at hl 2 rfl) ?_
        refine lv_iload_n hx hb dX3_coverOf_16 rfl (lv_at hl 1 rfl) ?_
        refine lv_iload_n hx hb dX3_coverOf_17 rfl (lv_at hl 3 rfl) ?_
        refine lv_ishr hx hb dX3_coverOf_18 ?_
        refine lv_iconst (v := 1) hx hb dX3_coverOf_19 (by decide) ?_
        refine lv_iand hx hb dX3_coverOf_20 ?_
        refine lv_iconst (v := 1) hx hb dX3_coverOf_21 (by decide) ?_
        refine lv_icmp_ne (tgt := 52) hx hb dX3_coverOf_22 (by decide) (fun c_22 => ?_) (fun c_22 => ?_)
        · refine lv_iconst (v := 0) hx hb dX3_coverOf_52 (by decide) ?_
          refine lv_ior hx hb dX3_coverOf_53 ?_
          refine lv_istore_n (lv' := [(2, .int (v ||| 0)), (0, .ref h0), (1, .int p0), (3, .int i)]) hx hb dX3_coverOf_54 rfl hl (by decide) rfl (fun ls hl => ?_)
          refine lv_iinc (v := i + 1) (lv' := [(3, .int (i + 1)), (2, .int (v ||| 0)), (0, .ref h0), (1, .int p0)]) hx hb dX3_coverOf_55 hl (k := 3) rfl rfl (by decide) rfl (fun ls hl => ?_)
          refine lv_goto (tgt := 4) hx hb dX3_coverOf_58 (by decide) ?_
          exact ih (k + 1) (v ||| 0) (i + 1) (i_succ hi (by omega)) (i_ltM hm hi c_12) (by omega) X (hX.trans ((if_neg c_12).trans ((if_neg c_22)))) _ _ hP hD hS _ (lv_sub hl [2, 3, 1, 0] rfl)
        · refine lv_aload_n hx hb dX3_coverOf_25 rfl (lv_at hl 0 rfl) ?_
          refine lv_aload_n hx hb dX3_coverOf_26 rfl (lv_at hl 0 rfl) ?_
          refine va_get (D := D) (ci := 3) (v := .ref ast) (C := RX3) (T := TX3) (N := 16) hx hb hts iX3_coverOf_X3 hown hK.1 hP 0 rfl rfl 0 (by decide) (hts (.fieldLink RX3 7 "CompassBiasModel" "state" "[I") (List.mem_of_getElem? (i := 1) rfl)) (fun _ h9 => h9) rfl dX3_coverOf_27 ?_
          refine lv_iconst (v := 0) hx hb dX3_coverOf_30 (by decide) ?_
          refine lv_iload_n hx hb dX3_coverOf_31 rfl (lv_at hl 3 rfl) ?_
          refine lv_iadd hx hb dX3_coverOf_32 ?_
          refine va_iald hx hb hK.1 hP 1 0 rfl rfl (vp_x hi (i_ltM hm hi c_12)) dX3_coverOf_33 ?_
          refine lv_aload_n hx hb dX3_coverOf_34 rfl (lv_at hl 0 rfl) ?_
          refine va_get (D := D) (ci := 3) (v := .ref ast) (C := RX3) (T := TX3) (N := 16) hx hb hts iX3_coverOf_X3 hown hK.1 hP 0 rfl rfl 0 (by decide) (hts (.fieldLink RX3 7 "CompassBiasModel" "state" "[I") (List.mem_of_getElem? (i := 1) rfl)) (fun _ h9 => h9) rfl dX3_coverOf_35 ?_
          refine lv_bipush (v := 10) hx hb dX3_coverOf_38 (by decide) ?_
          refine lv_iload_n hx hb dX3_coverOf_40 rfl (lv_at hl 3 rfl) ?_
          refine lv_iadd hx hb dX3_coverOf_41 ?_
          refine va_iald hx hb hK.1 hP 1 0 rfl rfl (vp_y hi (i_ltM hm hi c_12)) dX3_coverOf_42 ?_
          refine aft_i (wr := [(ast, .inl (cI, 23, .inl st))]) (run_V (As := [.int (st (0 + i).toNatClampNeg), .int (st (10 + i).toNatClampNeg)]) (rest := [.int v]) C (c_X3_eighthAt l D cI cZ h0 ast aim akt md (st (0 + i).toNatClampNeg) (st (10 + i).toNatClampNeg)) (cwV 2 hts gX3_coverOf_X3_eighthAt rfl rfl rfl (by decide +kernel) ⟨Nat.le_of_ble_eq_true rfl, Nat.le_of_ble_eq_true rfl⟩) hK (hP.sub (ws' := [(h0, .inr (3, mdv ast aim akt md))]) [0] rfl) (hD.sub (ws' := [(h0, .inr (3, mdv ast aim akt md))]) [0] (by decide) rfl) 0 3 rfl rfl rfl rfl hl.1 rfl (Nat.le_of_ble_eq_true rfl) dX3_coverOf_43 (Nat.zero_le _) (Nat.zero_le _)) hP hD hS hA [0] [1] rfl rfl (by decide) (by decide) (fun z9 u9 H locs hw hP hD hS => ?_)
          subst hw
          have hP : va_P D classes [(ast, .inl (cI, 23, .inl st)), (h0, .inr (3, mdv ast aim akt md))] H := hP
          have hD : va_D A [(ast, .inl (cI, 23, .inl st)), (h0, .inr (3, mdv ast aim akt md))] := hD
          refine aft_i (wr := [(ast, .inl (cI, 23, .inl st)), (h0, .inr (3, mdv ast aim akt md))]) (run_S (As := [.int (F_X3_eighthAt md (st (0 + i).toNatClampNeg) (st (10 + i).toNatClampNeg))]) (rest := [.int v]) C (c_X3_bit l D cI cZ (F_X3_eighthAt md (st (0 + i).toNatClampNeg) (st (10 + i).toNatClampNeg))) (va_cwS 1 hts gX3_coverOf_X3_bit rfl rfl rfl (by decide +kernel) ⟨Nat.le_of_ble_eq_true rfl, Nat.le_of_ble_eq_true rfl⟩) hK (hP.sub (ws' := []) [] rfl) (hD.sub (ws' := []) [] (by decide) rfl) rfl hl.1 rfl (Nat.le_of_ble_eq_true rfl) dX3_coverOf_46 (Nat.zero_le _) (Nat.zero_le _)) hP hD hS hA [] [0, 1] rfl rfl (by decide) (by decide) (fun z9 u9 H locs hw hP hD hS => ?_)
          subst hw
          have hP : va_P D classes [(ast, .inl (cI, 23, .inl st)), (h0, .inr (3, mdv ast aim akt md))] H := hP
          have hD : va_D A [(ast, .inl (cI, 23, .inl st)), (h0, .inr (3, mdv ast aim akt md))] := hD
          refine lv_goto (tgt := 53) hx hb dX3_coverOf_49 (by decide) ?_
          refine lv_ior hx hb dX3_coverOf_53 ?_
          refine lv_istore_n (lv' := [(2, .int (v ||| (F_X3_bit (F_X3_eighthAt md (st (0 + i).toNatClampNeg) (st (10 + i).toNatClampNeg))))), (0, .ref h0), (1, .int p0), (3, .int i)]) hx hb dX3_coverOf_54 rfl hl (by decide) rfl (fun ls hl => ?_)
          refine lv_iinc (v := i + 1) (lv' := [(3, .int (i + 1)), (2, .int (v ||| (F_X3_bit (F_X3_eighthAt md (st (0 + i).toNatClampNeg) (st (10 + i).toNatClampNeg))))), (0, .ref h0), (1, .int p0)]) hx hb dX3_coverOf_55 hl (k := 3) rfl rfl (by decide) rfl (fun ls hl => ?_)
          refine lv_goto (tgt := 4) hx hb dX3_coverOf_58 (by decide) ?_
          exact ih (k + 1) (v ||| (F_X3_bit (F_X3_eighthAt md (st (0 + i).toNatClampNeg) (st (10 + i).toNatClampNeg)))) (i + 1) (i_succ hi (by omega)) (i_ltM hm hi c_12) (by omega) X (hX.trans ((if_neg c_12).trans ((if_pos c_22)))) _ _ (hP.sub (ws' := [(h0, .inr (3, mdv ast aim akt md)), (ast, .inl (cI, 23, .inl st))]) [1, 0] rfl) (hD.sub (ws' := [(h0, .inr (3, mdv ast aim akt md)), (ast, .inl (cI, 23, .inl st))]) [1, 0] (by decide) rfl) hS _ (lv_sub hl [2, 3, 1, 0] rfl)
  have hl : lv_has ls 4 [(0, .ref h0), (1, .int p0)] := hl
  refine lv_iconst (v := 0) hx hb dX3_coverOf_0 (by decide) ?_
  refine lv_istore_n (lv' := [(2, .int 0), (0, .ref h0), (1, .int p0)]) hx hb dX3_coverOf_1 rfl hl (by decide) rfl (fun ls hl => ?_)
  refine lv_iconst (v := 0) hx hb dX3_coverOf_2 (by decide) ?_
  refine lv_istore_n (lv' := [(3, .int 0), (2, .int 0), (0, .ref h0), (1, .int p0)]) hx hb dX3_coverOf_3 rfl hl (by decide) rfl (fun ls hl => ?_)
  exact K4 11 0 0 0 rfl (by omega) (by omega) (F_X3_coverOf st md p0) rfl _ _ hP hD hS _ (lv_sub hl [2, 3, 1, 0] rfl)
