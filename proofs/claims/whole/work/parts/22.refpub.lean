def F_X3_cover (st : Nat → Int32) (md : Rd) : Int32 × Rd := if ((F_X3_layTaken st md).1) = 0 then (((-5), (F_X3_layTaken st md).2)) else ((F_X3_coverOf st ((F_X3_layTaken st md).2) (st 21), (F_X3_layTaken st md).2))
theorem iX3_cover_X3 : ∀ w ∈ u_ws RX3 TX3 16, w ∈ wsX3_cover := fun _ h => List.mem_cons_of_mem _ (List.mem_append_right _ (h))
set_option maxHeartbeats 4000000 in
set_option maxRecDepth 100000 in
theorem c_X3_cover (l : Launch) (D : va_G) (cI cZ : ClassId) (h0 ast aim akt : Nat) (st : Nat → Int32) (md : Rd) (hm : MB st) : CTi l yX3_cover wsX3_cover ({ frames := 5, cells := 0, slots := 0, locals := 107 } : Room) D cI cZ [.ref h0] [(h0, .inr (3, mdv ast aim akt md)), (ast, .inl (cI, 23, .inl st))] (S := Rd) (fun z9 u9 => F_X3_cover st md = (z9, u9)) (fun u => [(h0, .inr (3, mdv ast aim akt u)), (ast, .inl (cI, 23, .inl st))]) := by
  refine enterM (cc := cX3_cover) (maxL := 1) (ret := (some .int)) (own := RX3) (Qc := fun A => va_Qi (S := Rd) (fun z9 u9 => F_X3_cover st md = (z9, u9)) (PoB (S := Rd) D A (fun u => [(h0, .inr (3, mdv ast aim akt u)), (ast, .inl (cI, 23, .inl st))])) A) (by decide) rfl rfl (Nat.le_of_ble_eq_true rfl) ?_
  intro p e s m below meth c A ls C hK hA hP hD hS hl
  have hx := C.1
  have hb := C.2.1
  have hown := C.2.2.2.1
  have hts := C.2.2.2.2.1
  have _huse := hts
  have hl : lv_has ls 1 [(0, .ref h0)] := hl
  refine lv_aload_n hx hb dX3_cover_0 rfl (lv_at hl 0 rfl) ?_
  refine aft_i (wr := []) (run_V (As := []) (rest := []) C (c_X3_layTaken l D cI cZ h0 ast aim akt st md hm) (cwV 0 hts gX3_cover_X3_layTaken rfl rfl rfl (by decide +kernel) ⟨Nat.le_of_ble_eq_true rfl, Nat.le_of_ble_eq_true rfl⟩) hK (hP.sub (ws' := [(h0, .inr (3, mdv ast aim akt md)), (ast, .inl (cI, 23, .inl st))]) [0, 1] rfl) (hD.sub (ws' := [(h0, .inr (3, mdv ast aim akt md)), (ast, .inl (cI, 23, .inl st))]) [0, 1] (by decide) rfl) 0 3 rfl rfl rfl rfl hl.1 rfl (Nat.le_of_ble_eq_true rfl) dX3_cover_1 (Nat.zero_le _) (Nat.zero_le _)) hP hD hS hA [0, 1] [] rfl rfl (by decide) (by decide) (fun z9 u9 H locs hw hP hD hS => ?_)
  obtain ⟨rfl, rfl⟩ : (F_X3_layTaken st md).1 = z9 ∧ (F_X3_layTaken st md).2 = u9 := by rw [hw]; exact ⟨rfl, rfl⟩
  have hP : va_P D classes [(h0, .inr (3, mdv ast aim akt ((F_X3_layTaken st md).2))), (ast, .inl (cI, 23, .inl st))] H := hP
  have hD : va_D A [(h0, .inr (3, mdv ast aim akt ((F_X3_layTaken st md).2))), (ast, .inl (cI, 23, .inl st))] := hD
  refine lv_if_eq (tgt := 21) hx hb dX3_cover_4 (by decide) (fun c_4 => ?_) (fun c_4 => ?_)
  · refine lv_bipush (v := (-5)) hx hb dX3_cover_21 (by decide) ?_
    exact ret_i C ((F_X3_layTaken st md).2) (if_pos c_4) hP hD hS dX3_cover_23
  · refine lv_aload_n hx hb dX3_cover_7 rfl (lv_at hl 0 rfl) ?_
    refine lv_aload_n hx hb dX3_cover_8 rfl (lv_at hl 0 rfl) ?_
    refine va_get (D := D) (ci := 3) (v := .ref ast) (C := RX3) (T := TX3) (N := 16) hx hb hts iX3_cover_X3 hown hK.1 hP 0 rfl rfl 0 (by decide) (hts (.fieldLink RX3 7 "CompassBiasModel" "state" "[I") (List.mem_of_getElem? (i := 1) rfl)) (fun _ h9 => h9) rfl dX3_cover_9 ?_
    refine lv_bipush (v := 21) hx hb dX3_cover_12 (by decide) ?_
    refine va_iald hx hb hK.1 hP 1 0 rfl rfl (vp_lit (by decide)) dX3_cover_14 ?_
    refine W.eq (g2 := F0 m 15 ls [.int (st 21), .ref h0]) rfl ?_
    refine aft_i (wr := []) (run_V (As := [.int (st 21)]) (rest := []) C (c_X3_coverOf l D cI cZ h0 ast aim akt st ((F_X3_layTaken st md).2) (st 21) hm) (cwV 1 hts gX3_cover_X3_coverOf rfl rfl rfl (by decide +kernel) ⟨Nat.le_of_ble_eq_true rfl, Nat.le_of_ble_eq_true rfl⟩) hK (hP.sub (ws' := [(h0, .inr (3, mdv ast aim akt ((F_X3_layTaken st md).2))), (ast, .inl (cI, 23, .inl st))]) [0, 1] rfl) (hD.sub (ws' := [(h0, .inr (3, mdv ast aim akt ((F_X3_layTaken st md).2))), (ast, .inl (cI, 23, .inl st))]) [0, 1] (by decide) rfl) 0 3 rfl rfl rfl rfl hl.1 rfl (Nat.le_of_ble_eq_true rfl) dX3_cover_15 (Nat.zero_le _) (Nat.zero_le _)) hP hD hS hA [0, 1] [] rfl rfl (by decide) (by decide) (fun z9 u9 H locs hw hP hD hS => ?_)
    subst hw
    have hP : va_P D classes [(h0, .inr (3, mdv ast aim akt ((F_X3_layTaken st md).2))), (ast, .inl (cI, 23, .inl st))] H := hP
    have hD : va_D A [(h0, .inr (3, mdv ast aim akt ((F_X3_layTaken st md).2))), (ast, .inl (cI, 23, .inl st))] := hD
    refine lv_goto (tgt := 23) hx hb dX3_cover_18 (by decide) ?_
    exact ret_i C ((F_X3_layTaken st md).2) (if_neg c_4) hP hD hS dX3_cover_23
def F_X3_isPoor (st : Nat → Int32) (md : Rd) : Int32 × Rd := if ((F_X3_layTaken st md).1) = 0 then ((1, (F_X3_layTaken st md).2)) else (if (st 22) ≤ (F_X3_size (F_X3_coverOf st ((F_X3_layTaken st md).2) (st 21))) then ((0, (F_X3_layTaken st md).2)) else ((1, (F_X3_layTaken st md).2)))
theorem iX3_isPoor_X3 : ∀ w ∈ u_ws RX3 TX3 16, w ∈ wsX3_isPoor := fun _ h => List.mem_cons_of_mem _ (List.mem_append_right _ (h))
set_option maxHeartbeats 4000000 in
set_option maxRecDepth 100000 in
theorem c_X3_isPoor (l : Launch) (D : va_G) (cI cZ : ClassId) (h0 ast aim akt : Nat) (st : Nat → Int32) (md : Rd) (hm : MB st) : CTi l yX3_isPoor wsX3_isPoor ({ frames := 5, cells := 0, slots := 0, locals := 107 } : Room) D cI cZ [.ref h0] [(h0, .inr (3, mdv ast aim akt md)), (ast, .inl (cI, 23, .inl st))] (S := Rd) (fun z9 u9 => F_X3_isPoor st md = (z9, u9)) (fun u => [(h0, .inr (3, mdv ast aim akt u)), (ast, .inl (cI, 23, .inl st))]) := by
  refine enterM (cc := cX3_isPoor) (maxL := 1) (ret := (some .boolean)) (own := RX3) (Qc := fun A => va_Qi (S := Rd) (fun z9 u9 => F_X3_isPoor st md = (z9, u9)) (PoB (S := Rd) D A (fun u => [(h0, .inr (3, mdv ast aim akt u)), (ast, .inl (cI, 23, .inl st))])) A) (by decide) rfl rfl (Nat.le_of_ble_eq_true rfl) ?_
  intro p e s m below meth c A ls C hK hA hP hD hS hl
  have hx := C.1
  have hb := C.2.1
  have hown := C.2.2.2.1
  have hts := C.2.2.2.2.1
  have _huse := hts
  have hl : lv_has ls 1 [(0, .ref h0)] := hl
  refine lv_aload_n hx hb dX3_isPoor_0 rfl (lv_at hl 0 rfl) ?_
  refine aft_i (wr := []) (run_V (As := []) (rest := []) C (c_X3_layTaken l D cI cZ h0 ast aim akt st md hm) (cwV 0 hts gX3_isPoor_X3_layTaken rfl rfl rfl (by decide +kernel) ⟨Nat.le_of_ble_eq_true rfl, Nat.le_of_ble_eq_true rfl⟩) hK (hP.sub (ws' := [(h0, .inr (3, mdv ast aim akt md)), (ast, .inl (cI, 23, .inl st))]) [0, 1] rfl) (hD.sub (ws' := [(h0, .inr (3, mdv ast aim akt md)), (ast, .inl (cI, 23, .inl st))]) [0, 1] (by decide) rfl) 0 3 rfl rfl rfl rfl hl.1 rfl (Nat.le_of_ble_eq_true rfl) dX3_isPoor_1 (Nat.zero_le _) (Nat.zero_le _)) hP hD hS hA [0, 1] [] rfl rfl (by decide) (by decide) (fun z9 u9 H locs hw hP hD hS => ?_)
  obtain ⟨rfl, rfl⟩ : (F_X3_layTaken st md).1 = z9 ∧ (F_X3_layTaken st md).2 = u9 := by rw [hw]; exact ⟨rfl, rfl⟩
  have hP : va_P D classes [(h0, .inr (3, mdv ast aim akt ((F_X3_layTaken st md).2))), (ast, .inl (cI, 23, .inl st))] H := hP
  have hD : va_D A [(h0, .inr (3, mdv ast aim akt ((F_X3_layTaken st md).2))), (ast, .inl (cI, 23, .inl st))] := hD
  refine lv_if_eq (tgt := 31) hx hb dX3_isPoor_4 (by decide) (fun c_4 => ?_) (fun c_4 => ?_)
  · refine lv_iconst (v := 1) hx hb dX3_isPoor_31 (by decide) ?_
    refine lv_goto (tgt := 36) hx hb dX3_isPoor_32 (by decide) ?_
    exact ret_z C (Or.inr rfl) ((F_X3_layTaken st md).2) (if_pos c_4) hP hD hS dX3_isPoor_36
  · refine lv_aload_n hx hb dX3_isPoor_7 rfl (lv_at hl 0 rfl) ?_
    refine lv_aload_n hx hb dX3_isPoor_8 rfl (lv_at hl 0 rfl) ?_
    refine va_get (D := D) (ci := 3) (v := .ref ast) (C := RX3) (T := TX3) (N := 16) hx hb hts iX3_isPoor_X3 hown hK.1 hP 0 rfl rfl 0 (by decide) (hts (.fieldLink RX3 7 "CompassBiasModel" "state" "[I") (List.mem_of_getElem? (i := 1) rfl)) (fun _ h9 => h9) rfl dX3_isPoor_9 ?_
    refine lv_bipush (v := 21) hx hb dX3_isPoor_12 (by decide) ?_
    refine va_iald hx hb hK.1 hP 1 0 rfl rfl (vp_lit (by decide)) dX3_isPoor_14 ?_
    refine W.eq (g2 := F0 m 15 ls [.int (st 21), .ref h0]) rfl ?_
    refine aft_i (wr := []) (run_V (As := [.int (st 21)]) (rest := []) C (c_X3_coverOf l D cI cZ h0 ast aim akt st ((F_X3_layTaken st md).2) (st 21) hm) (cwV 1 hts gX3_isPoor_X3_coverOf rfl rfl rfl (by decide +kernel) ⟨Nat.le_of_ble_eq_true rfl, Nat.le_of_ble_eq_true rfl⟩) hK (hP.sub (ws' := [(h0, .inr (3, mdv ast aim akt ((F_X3_layTaken st md).2))), (ast, .inl (cI, 23, .inl st))]) [0, 1] rfl) (hD.sub (ws' := [(h0, .inr (3, mdv ast aim akt ((F_X3_layTaken st md).2))), (ast, .inl (cI, 23, .inl st))]) [0, 1] (by decide) rfl) 0 3 rfl rfl rfl rfl hl.1 rfl (Nat.le_of_ble_eq_true rfl) dX3_isPoor_15 (Nat.zero_le _) (Nat.zero_le _)) hP hD hS hA [0, 1] [] rfl rfl (by decide) (by decide) (fun z9 u9 H locs hw hP hD hS => ?_)
    subst hw
    have hP : va_P D classes [(h0, .inr (3, mdv ast aim akt ((F_X3_layTaken st md).2))), (ast, .inl (cI, 23, .inl st))] H := hP
    have hD : va_D A [(h0, .inr (3, mdv ast aim akt ((F_X3_layTaken st md).2))), (ast, .inl (cI, 23, .inl st))] := hD
    refine aft_i (wr := [(h0, .inr (3, mdv ast aim akt ((F_X3_layTaken st md).2))), (ast, .inl (cI, 23, .inl st))]) (run_S (As := [.int (F_X3_coverOf st ((F_X3_layTaken st md).2) (st 21))]) (rest := []) C (c_X3_size l D cI cZ (F_X3_coverOf st ((F_X3_layTaken st md).2) (st 21))) (va_cwS 1 hts gX3_isPoor_X3_size rfl rfl rfl (by decide +kernel) ⟨Nat.le_of_ble_eq_true rfl, Nat.le_of_ble_eq_true rfl⟩) hK (hP.sub (ws' := []) [] rfl) (hD.sub (ws' := []) [] (by decide) rfl) rfl hl.1 rfl (Nat.le_of_ble_eq_true rfl) dX3_isPoor_18 (Nat.zero_le _) (Nat.zero_le _)) hP hD hS hA [] [0, 1] rfl rfl (by decide) (by decide) (fun z9 u9 H locs hw hP hD hS => ?_)
    subst hw
    have hP : va_P D classes [(h0, .inr (3, mdv ast aim akt ((F_X3_layTaken st md).2))), (ast, .inl (cI, 23, .inl st))] H := hP
    have hD : va_D A [(h0, .inr (3, mdv ast aim akt ((F_X3_layTaken st md).2))), (ast, .inl (cI, 23, .inl st))] := hD
    refine lv_aload_n hx hb dX3_isPoor_21 rfl (lv_at hl 0 rfl) ?_
    refine va_get (D := D) (ci := 3) (v := .ref ast) (C := RX3) (T := TX3) (N := 16) hx hb hts iX3_isPoor_X3 hown hK.1 hP 0 rfl rfl 0 (by decide) (hts (.fieldLink RX3 7 "CompassBiasModel" "state" "[I") (List.mem_of_getElem? (i := 1) rfl)) (fun _ h9 => h9) rfl dX3_isPoor_22 ?_
    refine lv_bipush (v := 22) hx hb dX3_isPoor_25 (by decide) ?_
    refine va_iald hx hb hK.1 hP 1 0 rfl rfl (vp_lit (by decide)) dX3_isPoor_27 ?_
    refine W.eq (g2 := F0 m 28 ls [.int (st 22), .int (F_X3_size (F_X3_coverOf st ((F_X3_layTaken st md).2) (st 21)))]) rfl ?_
    refine lv_icmp_ge (tgt := 35) hx hb dX3_isPoor_28 (by decide) (fun c_28 => ?_) (fun c_28 => ?_)
    · refine lv_iconst (v := 0) hx hb dX3_isPoor_35 (by decide) ?_
      exact ret_z C (Or.inl rfl) ((F_X3_layTaken st md).2) ((if_neg c_4).trans ((if_pos c_28))) hP hD hS dX3_isPoor_36
    · refine lv_iconst (v := 1) hx hb dX3_isPoor_31 (by decide) ?_
      refine lv_goto (tgt := 36) hx hb dX3_isPoor_32 (by decide) ?_
      exact ret_z C (Or.inr rfl) ((F_X3_layTaken st md).2) ((if_neg c_4).trans ((if_neg c_28))) hP hD hS dX3_isPoor_36
def F_X3_poor (st : Nat → Int32) (md : Rd) : Int32 × Rd := if ((F_X3_isPoor st md).1) = 0 then ((0, (F_X3_isPoor st md).2)) else ((1, (F_X3_isPoor st md).2))
set_option maxHeartbeats 4000000 in
set_option maxRecDepth 100000 in
theorem c_X3_poor (l : Launch) (D : va_G) (cI cZ : ClassId) (h0 ast aim akt : Nat) (st : Nat → Int32) (md : Rd) (hm : MB st) : CTi l yX3_poor wsX3_poor ({ frames := 6, cells := 0, slots := 0, locals := 127 } : Room) D cI cZ [.ref h0] [(h0, .inr (3, mdv ast aim akt md)), (ast, .inl (cI, 23, .inl st))] (S := Rd) (fun z9 u9 => F_X3_poor st md = (z9, u9)) (fun u => [(h0, .inr (3, mdv ast aim akt u)), (ast, .inl (cI, 23, .inl st))]) := by
  refine enterM (cc := cX3_poor) (maxL := 1) (ret := (some .int)) (own := RX3) (Qc := fun A => va_Qi (S := Rd) (fun z9 u9 => F_X3_poor st md = (z9, u9)) (PoB (S := Rd) D A (fun u => [(h0, .inr (3, mdv ast aim akt u)), (ast, .inl (cI, 23, .inl st))])) A) (by decide) rfl rfl (Nat.le_of_ble_eq_true rfl) ?_
  intro p e s m below meth c A ls C hK hA hP hD hS hl
  have hx := C.1
  have hb := C.2.1
  have hown := C.2.2.2.1
  have hts := C.2.2.2.2.1
  have _huse := hts
  have hl : lv_has ls 1 [(0, .ref h0)] := hl
  refine lv_aload_n hx hb dX3_poor_0 rfl (lv_at hl 0 rfl) ?_
  refine aft_i (wr := []) (run_V (As := []) (rest := []) C (c_X3_isPoor l D cI cZ h0 ast aim akt st md hm) (cwV 0 hts gX3_poor_X3_isPoor rfl rfl rfl (by decide +kernel) ⟨Nat.le_of_ble_eq_true rfl, Nat.le_of_ble_eq_true rfl⟩) hK (hP.sub (ws' := [(h0, .inr (3, mdv ast aim akt md)), (ast, .inl (cI, 23, .inl st))]) [0, 1] rfl) (hD.sub (ws' := [(h0, .inr (3, mdv ast aim akt md)), (ast, .inl (cI, 23, .inl st))]) [0, 1] (by decide) rfl) 0 3 rfl rfl rfl rfl hl.1 rfl (Nat.le_of_ble_eq_true rfl) dX3_poor_1 (Nat.zero_le _) (Nat.zero_le _)) hP hD hS hA [0, 1] [] rfl rfl (by decide) (by decide) (fun z9 u9 H locs hw hP hD hS => ?_)
  obtain ⟨rfl, rfl⟩ : (F_X3_isPoor st md).1 = z9 ∧ (F_X3_isPoor st md).2 = u9 := by rw [hw]; exact ⟨rfl, rfl⟩
  have hP : va_P D classes [(h0, .inr (3, mdv ast aim akt ((F_X3_isPoor st md).2))), (ast, .inl (cI, 23, .inl st))] H := hP
  have hD : va_D A [(h0, .inr (3, mdv ast aim akt ((F_X3_isPoor st md).2))), (ast, .inl (cI, 23, .inl st))] := hD
  refine lv_if_eq (tgt := 11) hx hb dX3_poor_4 (by decide) (fun c_4 => ?_) (fun c_4 => ?_)
  · refine lv_iconst (v := 0) hx hb dX3_poor_11 (by decide) ?_
    exact ret_i C ((F_X3_isPoor st md).2) (if_pos c_4) hP hD hS dX3_poor_12
  · refine lv_iconst (v := 1) hx hb dX3_poor_7 (by decide) ?_
    refine lv_goto (tgt := 12) hx hb dX3_poor_8 (by decide) ?_
    exact ret_i C ((F_X3_isPoor st md).2) (if_neg c_4) hP hD hS dX3_poor_12
def F_X3_eighth (st : Nat → Int32) (md : Rd) (p0 : Int32) : Int32 × Rd := if (F_X3_isSample st p0) = 0 then (((-1), md)) else (if ((F_X3_layTaken st md).1) = 0 then (((-5), (F_X3_layTaken st md).2)) else ((F_X3_eighthAt ((F_X3_layTaken st md).2) (st (0 + p0).toNatClampNeg) (st (10 + p0).toNatClampNeg), (F_X3_layTaken st md).2)))
theorem iX3_eighth_X3 : ∀ w ∈ u_ws RX3 TX3 16, w ∈ wsX3_eighth := fun _ h => List.mem_cons_of_mem _ (List.mem_append_right _ (h))
set_option maxHeartbeats 4000000 in
set_option maxRecDepth 100000 in
theorem c_X3_eighth (l : Launch) (D : va_G) (cI cZ : ClassId) (h0 ast aim akt : Nat) (st : Nat → Int32) (md : Rd) (p0 : Int32) (hm : MB st) : CTi l yX3_eighth wsX3_eighth ({ frames := 5, cells := 0, slots := 0, locals := 107 } : Room) D cI cZ [.ref h0, .int p0] [(h0, .inr (3, mdv ast aim akt md)), (ast, .inl (cI, 23, .inl st))] (S := Rd) (fun z9 u9 => F_X3_eighth st md p0 = (z9, u9)) (fun u => [(h0, .inr (3, mdv ast aim akt u)), (ast, .inl (cI, 23, .inl st))]) := by
  refine enterM (cc := cX3_eighth) (maxL := 2) (ret := (some .int)) (own := RX3) (Qc := fun A => va_Qi (S := Rd) (fun z9 u9 => F_X3_eighth st md p0 = (z9, u9)) (PoB (S := Rd) D A (fun u => [(h0, .inr (3, mdv ast aim akt u)), (ast, .inl (cI, 23, .inl st))])) A) (by decide) rfl rfl (Nat.le_of_ble_eq_true rfl) ?_
  intro p e s m below meth c A ls C hK hA hP hD hS hl
  have hx := C.1
  have hb := C.2.1
  have hown := C.2.2.2.1
  have hts := C.2.2.2.2.1
  have _huse := hts
  have hl : lv_has ls 2 [(0, .ref h0), (1, .int p0)] := hl
  refine lv_aload_n hx hb dX3_eighth_0 rfl (lv_at hl 0 rfl) ?_
  refine lv_iload_n hx hb dX3_eighth_1 rfl (lv_at hl 1 rfl) ?_
  refine aft_i (wr := []) (run_V (As := [.int p0]) (rest := []) C (c_X3_isSample l D cI cZ h0 ast aim akt st md p0) (cwV 1 hts gX3_eighth_X3_isSample rfl rfl rfl (by decide +kernel) ⟨Nat.le_of_ble_eq_true rfl, Nat.le_of_ble_eq_true rfl⟩) hK (hP.sub (ws' := [(h0, .inr (3, mdv ast aim akt md)), (ast, .inl (cI, 23, .inl st))]) [0, 1] rfl) (hD.sub (ws' := [(h0, .inr (3, mdv ast aim akt md)), (ast, .inl (cI, 23, .inl st))]) [0, 1] (by decide) rfl) 0 3 rfl rfl rfl rfl hl.1 rfl (Nat.le_of_ble_eq_true rfl) dX3_eighth_2 (Nat.zero_le _) (Nat.zero_le _)) hP hD hS hA [0, 1] [] rfl rfl (by decide) (by decide) (fun z9 u9 H locs hw hP hD hS => ?_)
  subst hw
  have hP : va_P D classes [(h0, .inr (3, mdv ast aim akt md)), (ast, .inl (cI, 23, .inl st))] H := hP
  have hD : va_D A [(h0, .inr (3, mdv ast aim akt md)), (ast, .inl (cI, 23, .inl st))] := hD
  refine lv_if_ne (tgt := 10) hx hb dX3_eighth_5 (by decide) (fun c_5 => ?_) (fun c_5 => ?_)
  · refine lv_aload_n hx hb dX3_eighth_10 rfl (lv_at hl 0 rfl) ?_
    refine aft_i (wr := []) (run_V (As := []) (rest := []) C (c_X3_layTaken l D cI cZ h0 ast aim akt st md hm) (cwV 0 hts gX3_eighth_X3_layTaken rfl rfl rfl (by decide +kernel) ⟨Nat.le_of_ble_eq_true rfl, Nat.le_of_ble_eq_true rfl⟩) hK (hP.sub (ws' := [(h0, .inr (3, mdv ast aim akt md)), (ast, .inl (cI, 23, .inl st))]) [0, 1] rfl) (hD.sub (ws' := [(h0, .inr (3, mdv ast aim akt md)), (ast, .inl (cI, 23, .inl st))]) [0, 1] (by decide) rfl) 0 3 rfl rfl rfl rfl hl.1 rfl (Nat.le_of_ble_eq_true rfl) dX3_eighth_11 (Nat.zero_le _) (Nat.zero_le _)) hP hD hS hA [0, 1] [] rfl rfl (by decide) (by decide) (fun z9 u9 H locs hw hP hD hS => ?_)
    obtain ⟨rfl, rfl⟩ : (F_X3_layTaken st md).1 = z9 ∧ (F_X3_layTaken st md).2 = u9 := by rw [hw]; exact ⟨rfl, rfl⟩
    have hP : va_P D classes [(h0, .inr (3, mdv ast aim akt ((F_X3_layTaken st md).2))), (ast, .inl (cI, 23, .inl st))] H := hP
    have hD : va_D A [(h0, .inr (3, mdv ast aim akt ((F_X3_layTaken st md).2))), (ast, .inl (cI, 23, .inl st))] := hD
    refine lv_if_eq (tgt := 41) hx hb dX3_eighth_14 (by decide) (fun c_14 => ?_) (fun c_14 => ?_)
    · refine lv_bipush (v := (-5)) hx hb dX3_eighth_41 (by decide) ?_
      exact ret_i C ((F_X3_layTaken st md).2) ((if_neg c_5).trans ((if_pos c_14))) hP hD hS dX3_eighth_43
    · refine lv_aload_n hx hb dX3_eighth_17 rfl (lv_at hl 0 rfl) ?_
      refine lv_aload_n hx hb dX3_eighth_18 rfl (lv_at hl 0 rfl) ?_
      refine va_get (D := D) (ci := 3) (v := .ref ast) (C := RX3) (T := TX3) (N := 16) hx hb hts iX3_eighth_X3 hown hK.1 hP 0 rfl rfl 0 (by decide) (hts (.fieldLink RX3 7 "CompassBiasModel" "state" "[I") (List.mem_of_getElem? (i := 1) rfl)) (fun _ h9 => h9) rfl dX3_eighth_19 ?_
      refine lv_iconst (v := 0) hx hb dX3_eighth_22 (by decide) ?_
      refine lv_iload_n hx hb dX3_eighth_23 rfl (lv_at hl 1 rfl) ?_
      refine lv_iadd hx hb dX3_eighth_24 ?_
      refine va_iald hx hb hK.1 hP 1 0 rfl rfl (samp3x hm c_5) dX3_eighth_25 ?_
      refine lv_aload_n hx hb dX3_eighth_26 rfl (lv_at hl 0 rfl) ?_
      refine va_get (D := D) (ci := 3) (v := .ref ast) (C := RX3) (T := TX3) (N := 16) hx hb hts iX3_eighth_X3 hown hK.1 hP 0 rfl rfl 0 (by decide) (hts (.fieldLink RX3 7 "CompassBiasModel" "state" "[I") (List.mem_of_getElem? (i := 1) rfl)) (fun _ h9 => h9) rfl dX3_eighth_27 ?_
      refine lv_bipush (v := 10) hx hb dX3_eighth_30 (by decide) ?_
      refine lv_iload_n hx hb dX3_eighth_32 rfl (lv_at hl 1 rfl) ?_
      refine lv_iadd hx hb dX3_eighth_33 ?_
      refine va_iald hx hb hK.1 hP 1 0 rfl rfl (samp3y hm c_5) dX3_eighth_34 ?_
      refine aft_i (wr := [(ast, .inl (cI, 23, .inl st))]) (run_V (As := [.int (st (0 + p0).toNatClampNeg), .int (st (10 + p0).toNatClampNeg)]) (rest := []) C (c_X3_eighthAt l D cI cZ h0 ast aim akt ((F_X3_layTaken st md).2) (st (0 + p0).toNatClampNeg) (st (10 + p0).toNatClampNeg)) (cwV 2 hts gX3_eighth_X3_eighthAt rfl rfl rfl (by decide +kernel) ⟨Nat.le_of_ble_eq_true rfl, Nat.le_of_ble_eq_true rfl⟩) hK (hP.sub (ws' := [(h0, .inr (3, mdv ast aim akt ((F_X3_layTaken st md).2)))]) [0] rfl) (hD.sub (ws' := [(h0, .inr (3, mdv ast aim akt ((F_X3_layTaken st md).2)))]) [0] (by decide) rfl) 0 3 rfl rfl rfl rfl hl.1 rfl (Nat.le_of_ble_eq_true rfl) dX3_eighth_35 (Nat.zero_le _) (Nat.zero_le _)) hP hD hS hA [0] [1] rfl rfl (by decide) (by decide) (fun z9 u9 H locs hw hP hD hS => ?_)
      subst hw
      have hP : va_P D classes [(ast, .inl (cI, 23, .inl st)), (h0, .inr (3, mdv ast aim akt ((F_X3_layTaken st md).2)))] H := hP
      have hD : va_D A [(ast, .inl (cI, 23, .inl st)), (h0, .inr (3, mdv ast aim akt ((F_X3_layTaken st md).2)))] := hD
      refine lv_goto (tgt := 43) hx hb dX3_eighth_38 (by decide) ?_
      exact ret_i C ((F_X3_layTaken st md).2) ((if_neg c_5).trans ((if_neg c_14))) (hP.sub (ws' := [(h0, .inr (3, mdv ast aim akt ((F_X3_layTaken st md).2))), (ast, .inl (cI, 23, .inl st))]) [1, 0] rfl) (hD.sub (ws' := [(h0, .inr (3, mdv ast aim akt ((F_X3_layTaken st md).2))), (ast, .inl (cI, 23, .inl st))]) [1, 0] (by decide) rfl) hS dX3_eighth_43
  · refine lv_iconst (v := (-1)) hx hb dX3_eighth_8 (by decide) ?_
    exact ret_i C md (if_pos c_5) hP hD hS dX3_eighth_9
def F_X3_points (st : Nat → Int32) (md : Rd) (p0 : Int32) (p1 : Int32) : Int32 × Rd := if (F_X3_isHere p0 p1) = 0 then (((-2), md)) else (if ((F_X3_isPoor st md).1) = 0 then ((F_X3_eighthAt ((F_X3_isPoor st md).2) p0 p1, (F_X3_isPoor st md).2)) else (((-5), (F_X3_isPoor st md).2)))
set_option maxHeartbeats 4000000 in
set_option maxRecDepth 100000 in
theorem c_X3_points (l : Launch) (D : va_G) (cI cZ : ClassId) (h0 ast aim akt : Nat) (st : Nat → Int32) (md : Rd) (p0 : Int32) (p1 : Int32) (hm : MB st) : CTi l yX3_points wsX3_points ({ frames := 6, cells := 0, slots := 0, locals := 127 } : Room) D cI cZ [.ref h0, .int p0, .int p1] [(h0, .inr (3, mdv ast aim akt md)), (ast, .inl (cI, 23, .inl st))] (S := Rd) (fun z9 u9 => F_X3_points st md p0 p1 = (z9, u9)) (fun u => [(h0, .inr (3, mdv ast aim akt u)), (ast, .inl (cI, 23, .inl st))]) := by
  refine enterM (cc := cX3_points) (maxL := 3) (ret := (some .int)) (own := RX3) (Qc := fun A => va_Qi (S := Rd) (fun z9 u9 => F_X3_points st md p0 p1 = (z9, u9)) (PoB (S := Rd) D A (fun u => [(h0, .inr (3, mdv ast aim akt u)), (ast, .inl (cI, 23, .inl st))])) A) (by decide) rfl rfl (Nat.le_of_ble_eq_true rfl) ?_
  intro p e s m below meth c A ls C hK hA hP hD hS hl
  have hx := C.1
  have hb := C.2.1
  have hown := C.2.2.2.1
  have hts := C.2.2.2.2.1
  have _huse := hts
  have hl : lv_has ls 3 [(0, .ref h0), (1, .int p0), (2, .int p1)] := hl
  refine lv_iload_n hx hb dX3_points_0 rfl (lv_at hl 1 rfl) ?_
  refine lv_iload_n hx hb dX3_points_1 rfl (lv_at hl 2 rfl) ?_
  refine aft_i (wr := [(h0, .inr (3, mdv ast aim akt md)), (ast, .inl (cI, 23, .inl st))]) (run_S (As := [.int p0, .int p1]) (rest := []) C (c_X3_isHere l D cI cZ p0 p1) (va_cwS 2 hts gX3_points_X3_isHere rfl rfl rfl (by decide +kernel) ⟨Nat.le_of_ble_eq_true rfl, Nat.le_of_ble_eq_true rfl⟩) hK (hP.sub (ws' := []) [] rfl) (hD.sub (ws' := []) [] (by decide) rfl) rfl hl.1 rfl (Nat.le_of_ble_eq_true rfl) dX3_points_2 (Nat.zero_le _) (Nat.zero_le _)) hP hD hS hA [] [0, 1] rfl rfl (by decide) (by decide) (fun z9 u9 H locs hw hP hD hS => ?_)
  subst hw
  have hP : va_P D classes [(h0, .inr (3, mdv ast aim akt md)), (ast, .inl (cI, 23, .inl st))] H := hP
  have hD : va_D A [(h0, .inr (3, mdv ast aim akt md)), (ast, .inl (cI, 23, .inl st))] := hD
  refine lv_if_ne (tgt := 11) hx hb dX3_points_5 (by decide) (fun c_5 => ?_) (fun c_5 => ?_)
  · refine lv_aload_n hx hb dX3_points_11 rfl (lv_at hl 0 rfl) ?_
    refine aft_i (wr := []) (run_V (As := []) (rest := []) C (c_X3_isPoor l D cI cZ h0 ast aim akt st md hm) (cwV 0 hts gX3_points_X3_isPoor rfl rfl rfl (by decide +kernel) ⟨Nat.le_of_ble_eq_true rfl, Nat.le_of_ble_eq_true rfl⟩) hK (hP.sub (ws' := [(h0, .inr (3, mdv ast aim akt md)), (ast, .inl (cI, 23, .inl st))]) [0, 1] rfl) (hD.sub (ws' := [(h0, .inr (3, mdv ast aim akt md)), (ast, .inl (cI, 23, .inl st))]) [0, 1] (by decide) rfl) 0 3 rfl rfl rfl rfl hl.1 rfl (Nat.le_of_ble_eq_true rfl) dX3_points_12 (Nat.zero_le _) (Nat.zero_le _)) hP hD hS hA [0, 1] [] rfl rfl (by decide) (by decide) (fun z9 u9 H locs hw hP hD hS => ?_)
    obtain ⟨rfl, rfl⟩ : (F_X3_isPoor st md).1 = z9 ∧ (F_X3_isPoor st md).2 = u9 := by rw [hw]; exact ⟨rfl, rfl⟩
    have hP : va_P D classes [(h0, .inr (3, mdv ast aim akt ((F_X3_isPoor st md).2))), (ast, .inl (cI, 23, .inl st))] H := hP
    have hD : va_D A [(h0, .inr (3, mdv ast aim akt ((F_X3_isPoor st md).2))), (ast, .inl (cI, 23, .inl st))] := hD
    refine lv_if_eq (tgt := 23) hx hb dX3_points_15 (by decide) (fun c_15 => ?_) (fun c_15 => ?_)
    · refine lv_aload_n hx hb dX3_points_23 rfl (lv_at hl 0 rfl) ?_
      refine lv_iload_n hx hb dX3_points_24 rfl (lv_at hl 1 rfl) ?_
      refine lv_iload_n hx hb dX3_points_25 rfl (lv_at hl 2 rfl) ?_
      refine aft_i (wr := [(ast, .inl (cI, 23, .inl st))]) (run_V (As := [.int p0, .int p1]) (rest := []) C (c_X3_eighthAt l D cI cZ h0 ast aim akt ((F_X3_isPoor st md).2) p0 p1) (cwV 2 hts gX3_points_X3_eighthAt rfl rfl rfl (by decide +kernel) ⟨Nat.le_of_ble_eq_true rfl, Nat.le_of_ble_eq_true rfl⟩) hK (hP.sub (ws' := [(h0, .inr (3, mdv ast aim akt ((F_X3_isPoor st md).2)))]) [0] rfl) (hD.sub (ws' := [(h0, .inr (3, mdv ast aim akt ((F_X3_isPoor st md).2)))]) [0] (by decide) rfl) 0 3 rfl rfl rfl rfl hl.1 rfl (Nat.le_of_ble_eq_true rfl) dX3_points_26 (Nat.zero_le _) (Nat.zero_le _)) hP hD hS hA [0] [1] rfl rfl (by decide) (by decide) (fun z9 u9 H locs hw hP hD hS => ?_)
      subst hw
      have hP : va_P D classes [(ast, .inl (cI, 23, .inl st)), (h0, .inr (3, mdv ast aim akt ((F_X3_isPoor st md).2)))] H := hP
      have hD : va_D A [(ast, .inl (cI, 23, .inl st)), (h0, .inr (3, mdv ast aim akt ((F_X3_isPoor st md).2)))] := hD
      exact ret_i C ((F_X3_isPoor st md).2) ((if_neg c_5).trans ((if_pos c_15))) (hP.sub (ws' := [(h0, .inr (3, mdv ast aim akt ((F_X3_isPoor st md).2))), (ast, .inl (cI, 23, .inl st))]) [1, 0] rfl) (hD.sub (ws' := [(h0, .inr (3, mdv ast aim akt ((F_X3_isPoor st md).2))), (ast, .inl (cI, 23, .inl st))]) [1, 0] (by decide) rfl) hS dX3_points_29
    · refine lv_bipush (v := (-5)) hx hb dX3_points_18 (by decide) ?_
      refine lv_goto (tgt := 29) hx hb dX3_points_20 (by decide) ?_
      exact ret_i C ((F_X3_isPoor st md).2) ((if_neg c_5).trans ((if_neg c_15))) hP hD hS dX3_points_29
  · refine lv_bipush (v := (-2)) hx hb dX3_points_8 (by decide) ?_
    exact ret_i C md (if_pos c_5) hP hD hS dX3_points_10
def F_X3_round (st : Nat → Int32) (md : Rd) (p0 : Int32) (p1 : Int32) : Int64 × Rd := if (F_X3_in p0.toInt64 0 2) = 0 then (((-1000000000000000002), md)) else (if (F_X3_in p1.toInt64 0 1) = 0 then (((-1000000000000000002), md)) else (if ((F_X3_layTaken st md).1) = 0 then (((-1000000000000000005), (F_X3_layTaken st md).2)) else (if p0 = 0 then ((F_X3_told (((F_X3_layTaken st md).2).2.2.2.2.2.2.2.2.2.1) (((F_X3_layTaken st md).2).2.2.2.2.2.2.2.2.2.2.2.2) p1, (F_X3_layTaken st md).2)) else (if p0 = 1 then ((F_X3_told (((F_X3_layTaken st md).2).2.2.2.2.2.2.2.2.2.2.1) (((F_X3_layTaken st md).2).2.2.2.2.2.2.2.2.2.2.2.2) p1, (F_X3_layTaken st md).2)) else ((F_X3_told (((F_X3_layTaken st md).2).2.2.2.2.2.2.2.2.2.2.2.1) (((F_X3_layTaken st md).2).2.2.2.2.2.2.2.2.2.2.2.2) p1, (F_X3_layTaken st md).2))))))
theorem iX3_round_X3 : ∀ w ∈ u_ws RX3 TX3 16, w ∈ wsX3_round := fun _ h => List.mem_cons_of_mem _ (List.mem_append_right _ (h))
set_option maxHeartbeats 4000000 in
set_option maxRecDepth 100000 in
theorem c_X3_round (l : Launch) (D : va_G) (cI cZ : ClassId) (h0 ast aim akt : Nat) (st : Nat → Int32) (md : Rd) (p0 : Int32) (p1 : Int32) (hm : MB st) : CTl l yX3_round wsX3_round ({ frames := 5, cells := 0, slots := 0, locals := 107 } : Room) D cI cZ [.ref h0, .int p0, .int p1] [(h0, .inr (3, mdv ast aim akt md)), (ast, .inl (cI, 23, .inl st))] (S := Rd) (fun z9 u9 => F_X3_round st md p0 p1 = (z9, u9)) (fun u => [(h0, .inr (3, mdv ast aim akt u)), (ast, .inl (cI, 23, .inl st))]) := by
  refine enterM (cc := cX3_round) (maxL := 3) (ret := (some .long)) (own := RX3) (Qc := fun A => va_Ql (S := Rd) (fun z9 u9 => F_X3_round st md p0 p1 = (z9, u9)) (PoB (S := Rd) D A (fun u => [(h0, .inr (3, mdv ast aim akt u)), (ast, .inl (cI, 23, .inl st))])) A) (by decide) rfl rfl (Nat.le_of_ble_eq_true rfl) ?_
  intro p e s m below meth c A ls C hK hA hP hD hS hl
  have hx := C.1
  have hb := C.2.1
  have hown := C.2.2.2.1
  have hts := C.2.2.2.2.1
  have _huse := hts
  have hl : lv_has ls 3 [(0, .ref h0), (1, .int p0), (2, .int p1)] := hl
  refine lv_iload_n hx hb dX3_round_0 rfl (lv_at hl 1 rfl) ?_
  refine lv_i2l (v := p0.toInt64) hx hb dX3_round_1 rfl ?_
  refine lv_lconst (v := 0) hx hb dX3_round_2 (by decide) ?_
  refine lv_ldc2 (v := 2) hx hb hown (hts (.constantLong RX3 110 (2)) (List.mem_of_getElem? (i := 1) rfl)) dX3_round_3 ?_
  refine aft_i (wr := [(h0, .inr (3, mdv ast aim akt md)), (ast, .inl (cI, 23, .inl st))]) (run_S (As := [.long p0.toInt64, .long 0, .long 2]) (rest := []) C (c_X3_in l D cI cZ p0.toInt64 0 2) (va_cwS 3 hts gX3_round_X3_in rfl rfl rfl (by decide +kernel) ⟨Nat.le_of_ble_eq_true rfl, Nat.le_of_ble_eq_true rfl⟩) hK (hP.sub (ws' := []) [] rfl) (hD.sub (ws' := []) [] (by decide) rfl) rfl hl.1 rfl (Nat.le_of_ble_eq_true rfl) dX3_round_6 (Nat.zero_le _) (Nat.zero_le _)) hP hD hS hA [] [0, 1] rfl rfl (by decide) (by decide) (fun z9 u9 H locs hw hP hD hS => ?_)
  subst hw
  have hP : va_P D classes [(h0, .inr (3, mdv ast aim akt md)), (ast, .inl (cI, 23, .inl st))] H := hP
  have hD : va_D A [(h0, .inr (3, mdv ast aim akt md)), (ast, .inl (cI, 23, .inl st))] := hD
  refine lv_if_eq (tgt := 22) hx hb dX3_round_9 (by decide) (fun c_9 => ?_) (fun c_9 => ?_)
  · refine lv_ldc2 (v := (-1000000000000000002)) hx hb hown (hts (.constantLong RX3 112 (-1000000000000000002)) (List.mem_of_getElem? (i := 2) rfl)) dX3_round_22 ?_
    exact ret_l C md (if_pos c_9) hP hD hS dX3_round_25
  · refine lv_iload_n hx hb dX3_round_12 rfl (lv_at hl 2 rfl) ?_
    refine lv_i2l (v := p1.toInt64) hx hb dX3_round_13 rfl ?_
    refine lv_lconst (v := 0) hx hb dX3_round_14 (by decide) ?_
    refine lv_lconst (v := 1) hx hb dX3_round_15 (by decide) ?_
    refine aft_i (wr := [(h0, .inr (3, mdv ast aim akt md)), (ast, .inl (cI, 23, .inl st))]) (run_S (As := [.long p1.toInt64, .long 0, .long 1]) (rest := []) C (c_X3_in l D cI cZ p1.toInt64 0 1) (va_cwS 3 hts gX3_round_X3_in rfl rfl rfl (by decide +kernel) ⟨Nat.le_of_ble_eq_true rfl, Nat.le_of_ble_eq_true rfl⟩) hK (hP.sub (ws' := []) [] rfl) (hD.sub (ws' := []) [] (by decide) rfl) rfl hl.1 rfl (Nat.le_of_ble_eq_true rfl) dX3_round_16 (Nat.zero_le _) (Nat.zero_le _)) hP hD hS hA [] [0, 1] rfl rfl (by decide) (by decide) (fun z9 u9 H locs hw hP hD hS => ?_)
    subst hw
    have hP : va_P D classes [(h0, .inr (3, mdv ast aim akt md)), (ast, .inl (cI, 23, .inl st))] H := hP
    have hD : va_D A [(h0, .inr (3, mdv ast aim akt md)), (ast, .inl (cI, 23, .inl st))] := hD
    refine lv_if_ne (tgt := 26) hx hb dX3_round_19 (by decide) (fun c_19 => ?_) (fun c_19 => ?_)
    · refine lv_aload_n hx hb dX3_round_26 rfl (lv_at hl 0 rfl) ?_
      refine aft_i (wr := []) (run_V (As := []) (rest := []) C (c_X3_layTaken l D cI cZ h0 ast aim akt st md hm) (cwV 0 hts gX3_round_X3_layTaken rfl rfl rfl (by decide +kernel) ⟨Nat.le_of_ble_eq_true rfl, Nat.le_of_ble_eq_true rfl⟩) hK (hP.sub (ws' := [(h0, .inr (3, mdv ast aim akt md)), (ast, .inl (cI, 23, .inl st))]) [0, 1] rfl) (hD.sub (ws' := [(h0, .inr (3, mdv ast aim akt md)), (ast, .inl (cI, 23, .inl st))]) [0, 1] (by decide) rfl) 0 3 rfl rfl rfl rfl hl.1 rfl (Nat.le_of_ble_eq_true rfl) dX3_round_27 (Nat.zero_le _) (Nat.zero_le _)) hP hD hS hA [0, 1] [] rfl rfl (by decide) (by decide) (fun z9 u9 H locs hw hP hD hS => ?_)
      obtain ⟨rfl, rfl⟩ : (F_X3_layTaken st md).1 = z9 ∧ (F_X3_layTaken st md).2 = u9 := by rw [hw]; exact ⟨rfl, rfl⟩
      have hP : va_P D classes [(h0, .inr (3, mdv ast aim akt ((F_X3_layTaken st md).2))), (ast, .inl (cI, 23, .inl st))] H := hP
      have hD : va_D A [(h0, .inr (3, mdv ast aim akt ((F_X3_layTaken st md).2))), (ast, .inl (cI, 23, .inl st))] := hD
      refine lv_if_ne (tgt := 37) hx hb dX3_round_30 (by decide) (fun c_30 => ?_) (fun c_30 => ?_)
      · refine lv_iload_n hx hb dX3_round_37 rfl (lv_at hl 1 rfl) ?_
        refine lv_if_ne (tgt := 48) hx hb dX3_round_38 (by decide) (fun c_38 => ?_) (fun c_38 => ?_)
        · refine lv_iload_n hx hb dX3_round_48 rfl (lv_at hl 1 rfl) ?_
          refine lv_iconst (v := 1) hx hb dX3_round_49 (by decide) ?_
          refine lv_icmp_ne (tgt := 60) hx hb dX3_round_50 (by decide) (fun c_50 => ?_) (fun c_50 => ?_)
          · refine lv_aload_n hx hb dX3_round_60 rfl (lv_at hl 0 rfl) ?_
            refine va_get (D := D) (ci := 3) (v := .long (((F_X3_layTaken st md).2).2.2.2.2.2.2.2.2.2.2.2.1)) (C := RX3) (T := TX3) (N := 16) hx hb hts iX3_round_X3 hown hK.1 hP 0 rfl rfl 14 (by decide) (hts (.fieldLink RX3 89 "CompassBiasModel" "c" "J") (List.mem_of_getElem? (i := 6) rfl)) (fun _ h9 => h9) rfl dX3_round_61 ?_
            refine lv_aload_n hx hb dX3_round_64 rfl (lv_at hl 0 rfl) ?_
            refine va_get (D := D) (ci := 3) (v := .long (((F_X3_layTaken st md).2).2.2.2.2.2.2.2.2.2.2.2.2)) (C := RX3) (T := TX3) (N := 16) hx hb hts iX3_round_X3 hown hK.1 hP 0 rfl rfl 15 (by decide) (hts (.fieldLink RX3 80 "CompassBiasModel" "by" "J") (List.mem_of_getElem? (i := 7) rfl)) (fun _ h9 => h9) rfl dX3_round_65 ?_
            refine lv_iload_n hx hb dX3_round_68 rfl (lv_at hl 2 rfl) ?_
            refine aft_l (wr := [(h0, .inr (3, mdv ast aim akt ((F_X3_layTaken st md).2))), (ast, .inl (cI, 23, .inl st))]) (run_S (As := [.long (((F_X3_layTaken st md).2).2.2.2.2.2.2.2.2.2.2.2.1), .long (((F_X3_layTaken st md).2).2.2.2.2.2.2.2.2.2.2.2.2), .int p1]) (rest := []) C (c_X3_told l D cI cZ (((F_X3_layTaken st md).2).2.2.2.2.2.2.2.2.2.2.2.1) (((F_X3_layTaken st md).2).2.2.2.2.2.2.2.2.2.2.2.2) p1 (layT_by c_30)) (va_cwS 3 hts gX3_round_X3_told rfl rfl rfl (by decide +kernel) ⟨Nat.le_of_ble_eq_true rfl, Nat.le_of_ble_eq_true rfl⟩) hK (hP.sub (ws' := []) [] rfl) (hD.sub (ws' := []) [] (by decide) rfl) rfl hl.1 rfl (Nat.le_of_ble_eq_true rfl) dX3_round_69 (Nat.zero_le _) (Nat.zero_le _)) hP hD hS hA [] [0, 1] rfl rfl (by decide) (by decide) (fun z9 u9 H locs hw hP hD hS => ?_)
            subst hw
            have hP : va_P D classes [(h0, .inr (3, mdv ast aim akt ((F_X3_layTaken st md).2))), (ast, .inl (cI, 23, .inl st))] H := hP
            have hD : va_D A [(h0, .inr (3, mdv ast aim akt ((F_X3_layTaken st md).2))), (ast, .inl (cI, 23, .inl st))] := hD
            exact ret_l C ((F_X3_layTaken st md).2) ((if_neg c_9).trans ((if_neg c_19).trans ((if_neg c_30).trans ((if_neg c_38).trans ((if_neg c_50)))))) hP hD hS dX3_round_72
          · refine lv_aload_n hx hb dX3_round_53 rfl (lv_at hl 0 rfl) ?_
            refine va_get (D := D) (ci := 3) (v := .long (((F_X3_layTaken st md).2).2.2.2.2.2.2.2.2.2.2.1)) (C := RX3) (T := TX3) (N := 16) hx hb hts iX3_round_X3 hown hK.1 hP 0 rfl rfl 13 (by decide) (hts (.fieldLink RX3 86 "CompassBiasModel" "b" "J") (List.mem_of_getElem? (i := 5) rfl)) (fun _ h9 => h9) rfl dX3_round_54 ?_
            refine lv_goto (tgt := 64) hx hb dX3_round_57 (by decide) ?_
            refine lv_aload_n hx hb dX3_round_64 rfl (lv_at hl 0 rfl) ?_
            refine va_get (D := D) (ci := 3) (v := .long (((F_X3_layTaken st md).2).2.2.2.2.2.2.2.2.2.2.2.2)) (C := RX3) (T := TX3) (N := 16) hx hb hts iX3_round_X3 hown hK.1 hP 0 rfl rfl 15 (by decide) (hts (.fieldLink RX3 80 "CompassBiasModel" "by" "J") (List.mem_of_getElem? (i := 7) rfl)) (fun _ h9 => h9) rfl dX3_round_65 ?_
            refine lv_iload_n hx hb dX3_round_68 rfl (lv_at hl 2 rfl) ?_
            refine aft_l (wr := [(h0, .inr (3, mdv ast aim akt ((F_X3_layTaken st md).2))), (ast, .inl (cI, 23, .inl st))]) (run_S (As := [.long (((F_X3_layTaken st md).2).2.2.2.2.2.2.2.2.2.2.1), .long (((F_X3_layTaken st md).2).2.2.2.2.2.2.2.2.2.2.2.2), .int p1]) (rest := []) C (c_X3_told l D cI cZ (((F_X3_layTaken st md).2).2.2.2.2.2.2.2.2.2.2.1) (((F_X3_layTaken st md).2).2.2.2.2.2.2.2.2.2.2.2.2) p1 (layT_by c_30)) (va_cwS 3 hts gX3_round_X3_told rfl rfl rfl (by decide +kernel) ⟨Nat.le_of_ble_eq_true rfl, Nat.le_of_ble_eq_true rfl⟩) hK (hP.sub (ws' := []) [] rfl) (hD.sub (ws' := []) [] (by decide) rfl) rfl hl.1 rfl (Nat.le_of_ble_eq_true rfl) dX3_round_69 (Nat.zero_le _) (Nat.zero_le _)) hP hD hS hA [] [0, 1] rfl rfl (by decide) (by decide) (fun z9 u9 H locs hw hP hD hS => ?_)
            subst hw
            have hP : va_P D classes [(h0, .inr (3, mdv ast aim akt ((F_X3_layTaken st md).2))), (ast, .inl (cI, 23, .inl st))] H := hP
            have hD : va_D A [(h0, .inr (3, mdv ast aim akt ((F_X3_layTaken st md).2))), (ast, .inl (cI, 23, .inl st))] := hD
            exact ret_l C ((F_X3_layTaken st md).2) ((if_neg c_9).trans ((if_neg c_19).trans ((if_neg c_30).trans ((if_neg c_38).trans ((if_pos c_50)))))) hP hD hS dX3_round_72
        · refine lv_aload_n hx hb dX3_round_41 rfl (lv_at hl 0 rfl) ?_
          refine va_get (D := D) (ci := 3) (v := .long (((F_X3_layTaken st md).2).2.2.2.2.2.2.2.2.2.1)) (C := RX3) (T := TX3) (N := 16) hx hb hts iX3_round_X3 hown hK.1 hP 0 rfl rfl 12 (by decide) (hts (.fieldLink RX3 83 "CompassBiasModel" "a" "J") (List.mem_of_getElem? (i := 4) rfl)) (fun _ h9 => h9) rfl dX3_round_42 ?_
          refine lv_goto (tgt := 64) hx hb dX3_round_45 (by decide) ?_
          refine lv_aload_n hx hb dX3_round_64 rfl (lv_at hl 0 rfl) ?_
          refine va_get (D := D) (ci := 3) (v := .long (((F_X3_layTaken st md).2).2.2.2.2.2.2.2.2.2.2.2.2)) (C := RX3) (T := TX3) (N := 16) hx hb hts iX3_round_X3 hown hK.1 hP 0 rfl rfl 15 (by decide) (hts (.fieldLink RX3 80 "CompassBiasModel" "by" "J") (List.mem_of_getElem? (i := 7) rfl)) (fun _ h9 => h9) rfl dX3_round_65 ?_
          refine lv_iload_n hx hb dX3_round_68 rfl (lv_at hl 2 rfl) ?_
          refine aft_l (wr := [(h0, .inr (3, mdv ast aim akt ((F_X3_layTaken st md).2))), (ast, .inl (cI, 23, .inl st))]) (run_S (As := [.long (((F_X3_layTaken st md).2).2.2.2.2.2.2.2.2.2.1), .long (((F_X3_layTaken st md).2).2.2.2.2.2.2.2.2.2.2.2.2), .int p1]) (rest := []) C (c_X3_told l D cI cZ (((F_X3_layTaken st md).2).2.2.2.2.2.2.2.2.2.1) (((F_X3_layTaken st md).2).2.2.2.2.2.2.2.2.2.2.2.2) p1 (layT_by c_30)) (va_cwS 3 hts gX3_round_X3_told rfl rfl rfl (by decide +kernel) ⟨Nat.le_of_ble_eq_true rfl, Nat.le_of_ble_eq_true rfl⟩) hK (hP.sub (ws' := []) [] rfl) (hD.sub (ws' := []) [] (by decide) rfl) rfl hl.1 rfl (Nat.le_of_ble_eq_true rfl) dX3_round_69 (Nat.zero_le _) (Nat.zero_le _)) hP hD hS hA [] [0, 1] rfl rfl (by decide) (by decide) (fun z9 u9 H locs hw hP hD hS => ?_)
          subst hw
          have hP : va_P D classes [(h0, .inr (3, mdv ast aim akt ((F_X3_layTaken st md).2))), (ast, .inl (cI, 23, .inl st))] H := hP
          have hD : va_D A [(h0, .inr (3, mdv ast aim akt ((F_X3_layTaken st md).2))), (ast, .inl (cI, 23, .inl st))] := hD
          exact ret_l C ((F_X3_layTaken st md).2) ((if_neg c_9).trans ((if_neg c_19).trans ((if_neg c_30).trans ((if_pos c_38))))) hP hD hS dX3_round_72
      · refine lv_ldc2 (v := (-1000000000000000005)) hx hb hown (hts (.constantLong RX3 118 (-1000000000000000005)) (List.mem_of_getElem? (i := 3) rfl)) dX3_round_33 ?_
        exact ret_l C ((F_X3_layTaken st md).2) ((if_neg c_9).trans ((if_neg c_19).trans ((if_pos c_30)))) hP hD hS dX3_round_36
    · refine lv_ldc2 (v := (-1000000000000000002)) hx hb hown (hts (.constantLong RX3 112 (-1000000000000000002)) (List.mem_of_getElem? (i := 2) rfl)) dX3_round_22 ?_
      exact ret_l C md ((if_neg c_9).trans ((if_pos c_19))) hP hD hS dX3_round_25
def F_X3_middle (st : Nat → Int32) (md : Rd) (p0 : Int32) (p1 : Int32) : Int64 × Rd := if (F_X3_in p0.toInt64 0 1) = 0 then (((-1000000000000000002), md)) else (if (F_X3_in p1.toInt64 0 1) = 0 then (((-1000000000000000002), md)) else (if ((F_X3_layTaken st md).1) = 0 then (((-1000000000000000005), (F_X3_layTaken st md).2)) else (if p0 = 0 then ((F_X3_told (((F_X3_layTaken st md).2).2.2.2.2.2.2.2.2.2.1) (2 * (((F_X3_layTaken st md).2).2.2.2.2.2.2.2.2.2.2.2.2)) p1, (F_X3_layTaken st md).2)) else ((F_X3_told (((F_X3_layTaken st md).2).2.2.2.2.2.2.2.2.2.2.1) (2 * (((F_X3_layTaken st md).2).2.2.2.2.2.2.2.2.2.2.2.2)) p1, (F_X3_layTaken st md).2)))))
theorem iX3_middle_X3 : ∀ w ∈ u_ws RX3 TX3 16, w ∈ wsX3_middle := fun _ h => List.mem_cons_of_mem _ (List.mem_append_right _ (h))
set_option maxHeartbeats 4000000 in
set_option maxRecDepth 100000 in
theorem c_X3_middle (l : Launch) (D : va_G) (cI cZ : ClassId) (h0 ast aim akt : Nat) (st : Nat → Int32) (md : Rd) (p0 : Int32) (p1 : Int32) (hm : MB st) (hz : ¬ (F_X3_layTaken st md).1 = 0 → ¬ 2 * (F_X3_layTaken st md).2.2.2.2.2.2.2.2.2.2.2.2.2 = 0) : CTl l yX3_middle wsX3_middle ({ frames := 5, cells := 0, slots := 0, locals := 107 } : Room) D cI cZ [.ref h0, .int p0, .int p1] [(h0, .inr (3, mdv ast aim akt md)), (ast, .inl (cI, 23, .inl st))] (S := Rd) (fun z9 u9 => F_X3_middle st md p0 p1 = (z9, u9)) (fun u => [(h0, .inr (3, mdv ast aim akt u)), (ast, .inl (cI, 23, .inl st))]) := by
  refine enterM (cc := cX3_middle) (maxL := 3) (ret := (some .long)) (own := RX3) (Qc := fun A => va_Ql (S := Rd) (fun z9 u9 => F_X3_middle st md p0 p1 = (z9, u9)) (PoB (S := Rd) D A (fun u => [(h0, .inr (3, mdv ast aim akt u)), (ast, .inl (cI, 23, .inl st))])) A) (by decide) rfl rfl (Nat.le_of_ble_eq_true rfl) ?_
  intro p e s m below meth c A ls C hK hA hP hD hS hl
  have hx := C.1
  have hb := C.2.1
  have hown := C.2.2.2.1
  have hts := C.2.2.2.2.1
  have _huse := hts
  have hl : lv_has ls 3 [(0, .ref h0), (1, .int p0), (2, .int p1)] := hl
  refine lv_iload_n hx hb dX3_middle_0 rfl (lv_at hl 1 rfl) ?_
  refine lv_i2l (v := p0.toInt64) hx hb dX3_middle_1 rfl ?_
  refine lv_lconst (v := 0) hx hb dX3_middle_2 (by decide) ?_
  refine lv_lconst (v := 1) hx hb dX3_middle_3 (by decide) ?_
  refine aft_i (wr := [(h0, .inr (3, mdv ast aim akt md)), (ast, .inl (cI, 23, .inl st))]) (run_S (As := [.long p0.toInt64, .long 0, .long 1]) (rest := []) C (c_X3_in l D cI cZ p0.toInt64 0 1) (va_cwS 3 hts gX3_middle_X3_in rfl rfl rfl (by decide +kernel) ⟨Nat.le_of_ble_eq_true rfl, Nat.le_of_ble_eq_true rfl⟩) hK (hP.sub (ws' := []) [] rfl) (hD.sub (ws' := []) [] (by decide) rfl) rfl hl.1 rfl (Nat.le_of_ble_eq_true rfl) dX3_middle_4 (Nat.zero_le _) (Nat.zero_le _)) hP hD hS hA [] [0, 1] rfl rfl (by decide) (by decide) (fun z9 u9 H locs hw hP hD hS => ?_)
  subst hw
  have hP : va_P D classes [(h0, .inr (3, mdv ast aim akt md)), (ast, .inl (cI, 23, .inl st))] H := hP
  have hD : va_D A [(h0, .inr (3, mdv ast aim akt md)), (ast, .inl (cI, 23, .inl st))] := hD
  refine lv_if_eq (tgt := 20) hx hb dX3_middle_7 (by decide) (fun c_7 => ?_) (fun c_7 => ?_)
  · refine lv_ldc2 (v := (-1000000000000000002)) hx hb hown (hts (.constantLong RX3 112 (-1000000000000000002)) (List.mem_of_getElem? (i := 1) rfl)) dX3_middle_20 ?_
    exact ret_l C md (if_pos c_7) hP hD hS dX3_middle_23
  · refine lv_iload_n hx hb dX3_middle_10 rfl (lv_at hl 2 rfl) ?_
    refine lv_i2l (v := p1.toInt64) hx hb dX3_middle_11 rfl ?_
    refine lv_lconst (v := 0) hx hb dX3_middle_12 (by decide) ?_
    refine lv_lconst (v := 1) hx hb dX3_middle_13 (by decide) ?_
    refine aft_i (wr := [(h0, .inr (3, mdv ast aim akt md)), (ast, .inl (cI, 23, .inl st))]) (run_S (As := [.long p1.toInt64, .long 0, .long 1]) (rest := []) C (c_X3_in l D cI cZ p1.toInt64 0 1) (va_cwS 3 hts gX3_middle_X3_in rfl rfl rfl (by decide +kernel) ⟨Nat.le_of_ble_eq_true rfl, Nat.le_of_ble_eq_true rfl⟩) hK (hP.sub (ws' := []) [] rfl) (hD.sub (ws' := []) [] (by decide) rfl) rfl hl.1 rfl (Nat.le_of_ble_eq_true rfl) dX3_middle_14 (Nat.zero_le _) (Nat.zero_le _)) hP hD hS hA [] [0, 1] rfl rfl (by decide) (by decide) (fun z9 u9 H locs hw hP hD hS => ?_)
    subst hw
    have hP : va_P D classes [(h0, .inr (3, mdv ast aim akt md)), (ast, .inl (cI, 23, .inl st))] H := hP
    have hD : va_D A [(h0, .inr (3, mdv ast aim akt md)), (ast, .inl (cI, 23, .inl st))] := hD
    refine lv_if_ne (tgt := 24) hx hb dX3_middle_17 (by decide) (fun c_17 => ?_) (fun c_17 => ?_)
    · refine lv_aload_n hx hb dX3_middle_24 rfl (lv_at hl 0 rfl) ?_
      refine aft_i (wr := []) (run_V (As := []) (rest := []) C (c_X3_layTaken l D cI cZ h0 ast aim akt st md hm) (cwV 0 hts gX3_middle_X3_layTaken rfl rfl rfl (by decide +kernel) ⟨Nat.le_of_ble_eq_true rfl, Nat.le_of_ble_eq_true rfl⟩) hK (hP.sub (ws' := [(h0, .inr (3, mdv ast aim akt md)), (ast, .inl (cI, 23, .inl st))]) [0, 1] rfl) (hD.sub (ws' := [(h0, .inr (3, mdv ast aim akt md)), (ast, .inl (cI, 23, .inl st))]) [0, 1] (by decide) rfl) 0 3 rfl rfl rfl rfl hl.1 rfl (Nat.le_of_ble_eq_true rfl) dX3_middle_25 (Nat.zero_le _) (Nat.zero_le _)) hP hD hS hA [0, 1] [] rfl rfl (by decide) (by decide) (fun z9 u9 H locs hw hP hD hS => ?_)
      obtain ⟨rfl, rfl⟩ : (F_X3_layTaken st md).1 = z9 ∧ (F_X3_layTaken st md).2 = u9 := by rw [hw]; exact ⟨rfl, rfl⟩
      have hP : va_P D classes [(h0, .inr (3, mdv ast aim akt ((F_X3_layTaken st md).2))), (ast, .inl (cI, 23, .inl st))] H := hP
      have hD : va_D A [(h0, .inr (3, mdv ast aim akt ((F_X3_layTaken st md).2))), (ast, .inl (cI, 23, .inl st))] := hD
      refine lv_if_ne (tgt := 35) hx hb dX3_middle_28 (by decide) (fun c_28 => ?_) (fun c_28 => ?_)
      · refine lv_iload_n hx hb dX3_middle_35 rfl (lv_at hl 1 rfl) ?_
        refine lv_if_ne (tgt := 46) hx hb dX3_middle_36 (by decide) (fun c_36 => ?_) (fun c_36 => ?_)
        · refine lv_aload_n hx hb dX3_middle_46 rfl (lv_at hl 0 rfl) ?_
          refine va_get (D := D) (ci := 3) (v := .long (((F_X3_layTaken st md).2).2.2.2.2.2.2.2.2.2.2.1)) (C := RX3) (T := TX3) (N := 16) hx hb hts iX3_middle_X3 hown hK.1 hP 0 rfl rfl 13 (by decide) (hts (.fieldLink RX3 86 "CompassBiasModel" "b" "J") (List.mem_of_getElem? (i := 4) rfl)) (fun _ h9 => h9) rfl dX3_middle_47 ?_
          refine lv_ldc2 (v := 2) hx hb hown (hts (.constantLong RX3 110 (2)) (List.mem_of_getElem? (i := 5) rfl)) dX3_middle_50 ?_
          refine lv_aload_n hx hb dX3_middle_53 rfl (lv_at hl 0 rfl) ?_
          refine va_get (D := D) (ci := 3) (v := .long (((F_X3_layTaken st md).2).2.2.2.2.2.2.2.2.2.2.2.2)) (C := RX3) (T := TX3) (N := 16) hx hb hts iX3_middle_X3 hown hK.1 hP 0 rfl rfl 15 (by decide) (hts (.fieldLink RX3 80 "CompassBiasModel" "by" "J") (List.mem_of_getElem? (i := 6) rfl)) (fun _ h9 => h9) rfl dX3_middle_54 ?_
          refine lv_lmul hx hb dX3_middle_57 ?_
          refine lv_iload_n hx hb dX3_middle_58 rfl (lv_at hl 2 rfl) ?_
          refine aft_l (wr := [(h0, .inr (3, mdv ast aim akt ((F_X3_layTaken st md).2))), (ast, .inl (cI, 23, .inl st))]) (run_S (As := [.long (((F_X3_layTaken st md).2).2.2.2.2.2.2.2.2.2.2.1), .long (2 * (((F_X3_layTaken st md).2).2.2.2.2.2.2.2.2.2.2.2.2)), .int p1]) (rest := []) C (c_X3_told l D cI cZ (((F_X3_layTaken st md).2).2.2.2.2.2.2.2.2.2.2.1) (2 * (((F_X3_layTaken st md).2).2.2.2.2.2.2.2.2.2.2.2.2)) p1 (hz c_28)) (va_cwS 3 hts gX3_middle_X3_told rfl rfl rfl (by decide +kernel) ⟨Nat.le_of_ble_eq_true rfl, Nat.le_of_ble_eq_true rfl⟩) hK (hP.sub (ws' := []) [] rfl) (hD.sub (ws' := []) [] (by decide) rfl) rfl hl.1 rfl (Nat.le_of_ble_eq_true rfl) dX3_middle_59 (Nat.zero_le _) (Nat.zero_le _)) hP hD hS hA [] [0, 1] rfl rfl (by decide) (by decide) (fun z9 u9 H locs hw hP hD hS => ?_)
          subst hw
          have hP : va_P D classes [(h0, .inr (3, mdv ast aim akt ((F_X3_layTaken st md).2))), (ast, .inl (cI, 23, .inl st))] H := hP
          have hD : va_D A [(h0, .inr (3, mdv ast aim akt ((F_X3_layTaken st md).2))), (ast, .inl (cI, 23, .inl st))] := hD
          exact ret_l C ((F_X3_layTaken st md).2) ((if_neg c_7).trans ((if_neg c_17).trans ((if_neg c_28).trans ((if_neg c_36))))) hP hD hS dX3_middle_62
        · refine lv_aload_n hx hb dX3_middle_39 rfl (lv_at hl 0 rfl) ?_
          refine va_get (D := D) (ci := 3) (v := .long (((F_X3_layTaken st md).2).2.2.2.2.2.2.2.2.2.1)) (C := RX3) (T := TX3) (N := 16) hx hb hts iX3_middle_X3 hown hK.1 hP 0 rfl rfl 12 (by decide) (hts (.fieldLink RX3 83 "CompassBiasModel" "a" "J") (List.mem_of_getElem? (i := 3) rfl)) (fun _ h9 => h9) rfl dX3_middle_40 ?_
          refine lv_goto (tgt := 50) hx hb dX3_middle_43 (by decide) ?_
          refine lv_ldc2 (v := 2) hx hb hown (hts (.constantLong RX3 110 (2)) (List.mem_of_getElem? (i := 5) rfl)) dX3_middle_50 ?_
          refine lv_aload_n hx hb dX3_middle_53 rfl (lv_at hl 0 rfl) ?_
          refine va_get (D := D) (ci := 3) (v := .long (((F_X3_layTaken st md).2).2.2.2.2.2.2.2.2.2.2.2.2)) (C := RX3) (T := TX3) (N := 16) hx hb hts iX3_middle_X3 hown hK.1 hP 0 rfl rfl 15 (by decide) (hts (.fieldLink RX3 80 "CompassBiasModel" "by" "J") (List.mem_of_getElem? (i := 6) rfl)) (fun _ h9 => h9) rfl dX3_middle_54 ?_
          refine lv_lmul hx hb dX3_middle_57 ?_
          refine lv_iload_n hx hb dX3_middle_58 rfl (lv_at hl 2 rfl) ?_
          refine aft_l (wr := [(h0, .inr (3, mdv ast aim akt ((F_X3_layTaken st md).2))), (ast, .inl (cI, 23, .inl st))]) (run_S (As := [.long (((F_X3_layTaken st md).2).2.2.2.2.2.2.2.2.2.1), .long (2 * (((F_X3_layTaken st md).2).2.2.2.2.2.2.2.2.2.2.2.2)), .int p1]) (rest := []) C (c_X3_told l D cI cZ (((F_X3_layTaken st md).2).2.2.2.2.2.2.2.2.2.1) (2 * (((F_X3_layTaken st md).2).2.2.2.2.2.2.2.2.2.2.2.2)) p1 (hz c_28)) (va_cwS 3 hts gX3_middle_X3_told rfl rfl rfl (by decide +kernel) ⟨Nat.le_of_ble_eq_true rfl, Nat.le_of_ble_eq_true rfl⟩) hK (hP.sub (ws' := []) [] rfl) (hD.sub (ws' := []) [] (by decide) rfl) rfl hl.1 rfl (Nat.le_of_ble_eq_true rfl) dX3_middle_59 (Nat.zero_le _) (Nat.zero_le _)) hP hD hS hA [] [0, 1] rfl rfl (by decide) (by decide) (fun z9 u9 H locs hw hP hD hS => ?_)
          subst hw
          have hP : va_P D classes [(h0, .inr (3, mdv ast aim akt ((F_X3_layTaken st md).2))), (ast, .inl (cI, 23, .inl st))] H := hP
          have hD : va_D A [(h0, .inr (3, mdv ast aim akt ((F_X3_layTaken st md).2))), (ast, .inl (cI, 23, .inl st))] := hD
          exact ret_l C ((F_X3_layTaken st md).2) ((if_neg c_7).trans ((if_neg c_17).trans ((if_neg c_28).trans ((if_pos c_36))))) hP hD hS dX3_middle_62
      · refine lv_ldc2 (v := (-1000000000000000005)) hx hb hown (hts (.constantLong RX3 118 (-1000000000000000005)) (List.mem_of_getElem? (i := 2) rfl)) dX3_middle_31 ?_
        exact ret_l C ((F_X3_layTaken st md).2) ((if_neg c_7).trans ((if_neg c_17).trans ((if_pos c_28)))) hP hD hS dX3_middle_34
    · refine lv_ldc2 (v := (-1000000000000000002)) hx hb hown (hts (.constantLong RX3 112 (-1000000000000000002)) (List.mem_of_getElem? (i := 1) rfl)) dX3_middle_20 ?_
      exact ret_l C md ((if_neg c_7).trans ((if_pos c_17))) hP hD hS dX3_middle_23
def F_X3_off (st : Nat → Int32) (md : Rd) (p0 : Int32) (p1 : Int32) : Int64 × Rd := if (F_X3_isSample st p0) = 0 then (((-1000000000000000001), md)) else (if (F_X3_in p1.toInt64 0 1) = 0 then (((-1000000000000000002), md)) else (if ((F_X3_layTaken st md).1) = 0 then (((-1000000000000000005), (F_X3_layTaken st md).2)) else ((F_X3_told (F_X3_offOf st ((F_X3_layTaken st md).2) p0) (((F_X3_layTaken st md).2).2.2.2.2.2.2.2.2.2.2.2.2) p1, (F_X3_layTaken st md).2))))
theorem iX3_off_X3 : ∀ w ∈ u_ws RX3 TX3 16, w ∈ wsX3_off := fun _ h => List.mem_cons_of_mem _ (List.mem_append_right _ (h))
set_option maxHeartbeats 4000000 in
set_option maxRecDepth 100000 in
theorem c_X3_off (l : Launch) (D : va_G) (cI cZ : ClassId) (h0 ast aim akt : Nat) (st : Nat → Int32) (md : Rd) (p0 : Int32) (p1 : Int32) (hm : MB st) : CTl l yX3_off wsX3_off ({ frames := 5, cells := 0, slots := 0, locals := 107 } : Room) D cI cZ [.ref h0, .int p0, .int p1] [(h0, .inr (3, mdv ast aim akt md)), (ast, .inl (cI, 23, .inl st))] (S := Rd) (fun z9 u9 => F_X3_off st md p0 p1 = (z9, u9)) (fun u => [(h0, .inr (3, mdv ast aim akt u)), (ast, .inl (cI, 23, .inl st))]) := by
  refine enterM (cc := cX3_off) (maxL := 3) (ret := (some .long)) (own := RX3) (Qc := fun A => va_Ql (S := Rd) (fun z9 u9 => F_X3_off st md p0 p1 = (z9, u9)) (PoB (S := Rd) D A (fun u => [(h0, .inr (3, mdv ast aim akt u)), (ast, .inl (cI, 23, .inl st))])) A) (by decide) rfl rfl (Nat.le_of_ble_eq_true rfl) ?_
  intro p e s m below meth c A ls C hK hA hP hD hS hl
  have hx := C.1
  have hb := C.2.1
  have hown := C.2.2.2.1
  have hts := C.2.2.2.2.1
  have _huse := hts
  have hl : lv_has ls 3 [(0, .ref h0), (1, .int p0), (2, .int p1)] := hl
  refine lv_aload_n hx hb dX3_off_0 rfl (lv_at hl 0 rfl) ?_
  refine lv_iload_n hx hb dX3_off_1 rfl (lv_at hl 1 rfl) ?_
  refine aft_i (wr := []) (run_V (As := [.int p0]) (rest := []) C (c_X3_isSample l D cI cZ h0 ast aim akt st md p0) (cwV 1 hts gX3_off_X3_isSample rfl rfl rfl (by decide +kernel) ⟨Nat.le_of_ble_eq_true rfl, Nat.le_of_ble_eq_true rfl⟩) hK (hP.sub (ws' := [(h0, .inr (3, mdv ast aim akt md)), (ast, .inl (cI, 23, .inl st))]) [0, 1] rfl) (hD.sub (ws' := [(h0, .inr (3, mdv ast aim akt md)), (ast, .inl (cI, 23, .inl st))]) [0, 1] (by decide) rfl) 0 3 rfl rfl rfl rfl hl.1 rfl (Nat.le_of_ble_eq_true rfl) dX3_off_2 (Nat.zero_le _) (Nat.zero_le _)) hP hD hS hA [0, 1] [] rfl rfl (by decide) (by decide) (fun z9 u9 H locs hw hP hD hS => ?_)
  subst hw
  have hP : va_P D classes [(h0, .inr (3, mdv ast aim akt md)), (ast, .inl (cI, 23, .inl st))] H := hP
  have hD : va_D A [(h0, .inr (3, mdv ast aim akt md)), (ast, .inl (cI, 23, .inl st))] := hD
  refine lv_if_ne (tgt := 12) hx hb dX3_off_5 (by decide) (fun c_5 => ?_) (fun c_5 => ?_)
  · refine lv_iload_n hx hb dX3_off_12 rfl (lv_at hl 2 rfl) ?_
    refine lv_i2l (v := p1.toInt64) hx hb dX3_off_13 rfl ?_
    refine lv_lconst (v := 0) hx hb dX3_off_14 (by decide) ?_
    refine lv_lconst (v := 1) hx hb dX3_off_15 (by decide) ?_
    refine aft_i (wr := [(h0, .inr (3, mdv ast aim akt md)), (ast, .inl (cI, 23, .inl st))]) (run_S (As := [.long p1.toInt64, .long 0, .long 1]) (rest := []) C (c_X3_in l D cI cZ p1.toInt64 0 1) (va_cwS 3 hts gX3_off_X3_in rfl rfl rfl (by decide +kernel) ⟨Nat.le_of_ble_eq_true rfl, Nat.le_of_ble_eq_true rfl⟩) hK (hP.sub (ws' := []) [] rfl) (hD.sub (ws' := []) [] (by decide) rfl) rfl hl.1 rfl (Nat.le_of_ble_eq_true rfl) dX3_off_16 (Nat.zero_le _) (Nat.zero_le _)) hP hD hS hA [] [0, 1] rfl rfl (by decide) (by decide) (fun z9 u9 H locs hw hP hD hS => ?_)
    subst hw
    have hP : va_P D classes [(h0, .inr (3, mdv ast aim akt md)), (ast, .inl (cI, 23, .inl st))] H := hP
    have hD : va_D A [(h0, .inr (3, mdv ast aim akt md)), (ast, .inl (cI, 23, .inl st))] := hD
    refine lv_if_ne (tgt := 26) hx hb dX3_off_19 (by decide) (fun c_19 => ?_) (fun c_19 => ?_)
    · refine lv_aload_n hx hb dX3_off_26 rfl (lv_at hl 0 rfl) ?_
      refine aft_i (wr := []) (run_V (As := []) (rest := []) C (c_X3_layTaken l D cI cZ h0 ast aim akt st md hm) (cwV 0 hts gX3_off_X3_layTaken rfl rfl rfl (by decide +kernel) ⟨Nat.le_of_ble_eq_true rfl, Nat.le_of_ble_eq_true rfl⟩) hK (hP.sub (ws' := [(h0, .inr (3, mdv ast aim akt md)), (ast, .inl (cI, 23, .inl st))]) [0, 1] rfl) (hD.sub (ws' := [(h0, .inr (3, mdv ast aim akt md)), (ast, .inl (cI, 23, .inl st))]) [0, 1] (by decide) rfl) 0 3 rfl rfl rfl rfl hl.1 rfl (Nat.le_of_ble_eq_true rfl) dX3_off_27 (Nat.zero_le _) (Nat.zero_le _)) hP hD hS hA [0, 1] [] rfl rfl (by decide) (by decide) (fun z9 u9 H locs hw hP hD hS => ?_)
      obtain ⟨rfl, rfl⟩ : (F_X3_layTaken st md).1 = z9 ∧ (F_X3_layTaken st md).2 = u9 := by rw [hw]; exact ⟨rfl, rfl⟩
      have hP : va_P D classes [(h0, .inr (3, mdv ast aim akt ((F_X3_layTaken st md).2))), (ast, .inl (cI, 23, .inl st))] H := hP
      have hD : va_D A [(h0, .inr (3, mdv ast aim akt ((F_X3_layTaken st md).2))), (ast, .inl (cI, 23, .inl st))] := hD
      refine lv_if_ne (tgt := 37) hx hb dX3_off_30 (by decide) (fun c_30 => ?_) (fun c_30 => ?_)
      · refine lv_aload_n hx hb dX3_off_37 rfl (lv_at hl 0 rfl) ?_
        refine lv_iload_n hx hb dX3_off_38 rfl (lv_at hl 1 rfl) ?_
        refine aft_l (wr := []) (run_V (As := [.int p0]) (rest := []) C (c_X3_offOf l D cI cZ h0 ast aim akt st ((F_X3_layTaken st md).2) p0 (samp3x hm c_5) (samp3y hm c_5)) (cwV 1 hts gX3_off_X3_offOf rfl rfl rfl (by decide +kernel) ⟨Nat.le_of_ble_eq_true rfl, Nat.le_of_ble_eq_true rfl⟩) hK (hP.sub (ws' := [(h0, .inr (3, mdv ast aim akt ((F_X3_layTaken st md).2))), (ast, .inl (cI, 23, .inl st))]) [0, 1] rfl) (hD.sub (ws' := [(h0, .inr (3, mdv ast aim akt ((F_X3_layTaken st md).2))), (ast, .inl (cI, 23, .inl st))]) [0, 1] (by decide) rfl) 0 3 rfl rfl rfl rfl hl.1 rfl (Nat.le_of_ble_eq_true rfl) dX3_off_39 (Nat.zero_le _) (Nat.zero_le _)) hP hD hS hA [0, 1] [] rfl rfl (by decide) (by decide) (fun z9 u9 H locs hw hP hD hS => ?_)
        subst hw
        have hP : va_P D classes [(h0, .inr (3, mdv ast aim akt ((F_X3_layTaken st md).2))), (ast, .inl (cI, 23, .inl st))] H := hP
        have hD : va_D A [(h0, .inr (3, mdv ast aim akt ((F_X3_layTaken st md).2))), (ast, .inl (cI, 23, .inl st))] := hD
        refine lv_aload_n hx hb dX3_off_42 rfl (lv_at hl 0 rfl) ?_
        refine va_get (D := D) (ci := 3) (v := .long (((F_X3_layTaken st md).2).2.2.2.2.2.2.2.2.2.2.2.2)) (C := RX3) (T := TX3) (N := 16) hx hb hts iX3_off_X3 hown hK.1 hP 0 rfl rfl 15 (by decide) (hts (.fieldLink RX3 80 "CompassBiasModel" "by" "J") (List.mem_of_getElem? (i := 4) rfl)) (fun _ h9 => h9) rfl dX3_off_43 ?_
        refine lv_iload_n hx hb dX3_off_46 rfl (lv_at hl 2 rfl) ?_
        refine aft_l (wr := [(h0, .inr (3, mdv ast aim akt ((F_X3_layTaken st md).2))), (ast, .inl (cI, 23, .inl st))]) (run_S (As := [.long (F_X3_offOf st ((F_X3_layTaken st md).2) p0), .long (((F_X3_layTaken st md).2).2.2.2.2.2.2.2.2.2.2.2.2), .int p1]) (rest := []) C (c_X3_told l D cI cZ (F_X3_offOf st ((F_X3_layTaken st md).2) p0) (((F_X3_layTaken st md).2).2.2.2.2.2.2.2.2.2.2.2.2) p1 (layT_by c_30)) (va_cwS 3 hts gX3_off_X3_told rfl rfl rfl (by decide +kernel) ⟨Nat.le_of_ble_eq_true rfl, Nat.le_of_ble_eq_true rfl⟩) hK (hP.sub (ws' := []) [] rfl) (hD.sub (ws' := []) [] (by decide) rfl) rfl hl.1 rfl (Nat.le_of_ble_eq_true rfl) dX3_off_47 (Nat.zero_le _) (Nat.zero_le _)) hP hD hS hA [] [0, 1] rfl rfl (by decide) (by decide) (fun z9 u9 H locs hw hP hD hS => ?_)
        subst hw
        have hP : va_P D classes [(h0, .inr (3, mdv ast aim akt ((F_X3_layTaken st md).2))), (ast, .inl (cI, 23, .inl st))] H := hP
        have hD : va_D A [(h0, .inr (3, mdv ast aim akt ((F_X3_layTaken st md).2))), (ast, .inl (cI, 23, .inl st))] := hD
        exact ret_l C ((F_X3_layTaken st md).2) ((if_neg c_5).trans ((if_neg c_19).trans ((if_neg c_30)))) hP hD hS dX3_off_50
      · refine lv_ldc2 (v := (-1000000000000000005)) hx hb hown (hts (.constantLong RX3 118 (-1000000000000000005)) (List.mem_of_getElem? (i := 3) rfl)) dX3_off_33 ?_
        exact ret_l C ((F_X3_layTaken st md).2) ((if_neg c_5).trans ((if_neg c_19).trans ((if_pos c_30)))) hP hD hS dX3_off_36
    · refine lv_ldc2 (v := (-1000000000000000002)) hx hb hown (hts (.constantLong RX3 112 (-1000000000000000002)) (List.mem_of_getElem? (i := 2) rfl)) dX3_off_22 ?_
      exact ret_l C md ((if_neg c_5).trans ((if_pos c_19))) hP hD hS dX3_off_25
  · refine lv_ldc2 (v := (-1000000000000000001)) hx hb hown (hts (.constantLong RX3 124 (-1000000000000000001)) (List.mem_of_getElem? (i := 1) rfl)) dX3_off_8 ?_
    exact ret_l C md (if_pos c_5) hP hD hS dX3_off_11
def F_X3_worst (st : Nat → Int32) (md : Rd) (p0 : Int32) : Int32 × Rd := if (F_X3_in p0.toInt64 0 1) = 0 then (((-2), md)) else (if ((F_X3_layTaken st md).1) = 0 then (((-5), (F_X3_layTaken st md).2)) else (if p0 = 0 then ((F_X3_worstOf st ((F_X3_layTaken st md).2) (st 21), (F_X3_layTaken st md).2)) else ((((F_X3_plain (F_X3_offOf st ((F_X3_layTaken st md).2) (F_X3_worstOf st ((F_X3_layTaken st md).2) (st 21)))) / (((F_X3_layTaken st md).2).2.2.2.2.2.2.2.2.2.2.2.2)).toInt32, (F_X3_layTaken st md).2))))
theorem iX3_worst_X3 : ∀ w ∈ u_ws RX3 TX3 16, w ∈ wsX3_worst := fun _ h => List.mem_cons_of_mem _ (List.mem_append_right _ (h))
set_option maxHeartbeats 4000000 in
set_option maxRecDepth 100000 in
theorem c_X3_worst (l : Launch) (D : va_G) (cI cZ : ClassId) (h0 ast aim akt : Nat) (st : Nat → Int32) (md : Rd) (p0 : Int32) (hm : MB st) : CTi l yX3_worst wsX3_worst ({ frames := 5, cells := 0, slots := 0, locals := 107 } : Room) D cI cZ [.ref h0, .int p0] [(h0, .inr (3, mdv ast aim akt md)), (ast, .inl (cI, 23, .inl st))] (S := Rd) (fun z9 u9 => F_X3_worst st md p0 = (z9, u9)) (fun u => [(h0, .inr (3, mdv ast aim akt u)), (ast, .inl (cI, 23, .inl st))]) := by
  refine enterM (cc := cX3_worst) (maxL := 3) (ret := (some .int)) (own := RX3) (Qc := fun A => va_Qi (S := Rd) (fun z9 u9 => F_X3_worst st md p0 = (z9, u9)) (PoB (S := Rd) D A (fun u => [(h0, .inr (3, mdv ast aim akt u)), (ast, .inl (cI, 23, .inl st))])) A) (by decide) rfl rfl (Nat.le_of_ble_eq_true rfl) ?_
  intro p e s m below meth c A ls C hK hA hP hD hS hl
  have hx := C.1
  have hb := C.2.1
  have hown := C.2.2.2.1
  have hts := C.2.2.2.2.1
  have _huse := hts
  have hl : lv_has ls 3 [(0, .ref h0), (1, .int p0)] := hl
  refine lv_iload_n hx hb dX3_worst_0 rfl (lv_at hl 1 rfl) ?_
  refine lv_i2l (v := p0.toInt64) hx hb dX3_worst_1 rfl ?_
  refine lv_lconst (v := 0) hx hb dX3_worst_2 (by decide) ?_
  refine lv_lconst (v := 1) hx hb dX3_worst_3 (by decide) ?_
  refine aft_i (wr := [(h0, .inr (3, mdv ast aim akt md)), (ast, .inl (cI, 23, .inl st))]) (run_S (As := [.long p0.toInt64, .long 0, .long 1]) (rest := []) C (c_X3_in l D cI cZ p0.toInt64 0 1) (va_cwS 3 hts gX3_worst_X3_in rfl rfl rfl (by decide +kernel) ⟨Nat.le_of_ble_eq_true rfl, Nat.le_of_ble_eq_true rfl⟩) hK (hP.sub (ws' := []) [] rfl) (hD.sub (ws' := []) [] (by decide) rfl) rfl hl.1 rfl (Nat.le_of_ble_eq_true rfl) dX3_worst_4 (Nat.zero_le _) (Nat.zero_le _)) hP hD hS hA [] [0, 1] rfl rfl (by decide) (by decide) (fun z9 u9 H locs hw hP hD hS => ?_)
  subst hw
  have hP : va_P D classes [(h0, .inr (3, mdv ast aim akt md)), (ast, .inl (cI, 23, .inl st))] H := hP
  have hD : va_D A [(h0, .inr (3, mdv ast aim akt md)), (ast, .inl (cI, 23, .inl st))] := hD
  refine lv_if_ne (tgt := 13) hx hb dX3_worst_7 (by decide) (fun c_7 => ?_) (fun c_7 => ?_)
  · refine lv_aload_n hx hb dX3_worst_13 rfl (lv_at hl 0 rfl) ?_
    refine aft_i (wr := []) (run_V (As := []) (rest := []) C (c_X3_layTaken l D cI cZ h0 ast aim akt st md hm) (cwV 0 hts gX3_worst_X3_layTaken rfl rfl rfl (by decide +kernel) ⟨Nat.le_of_ble_eq_true rfl, Nat.le_of_ble_eq_true rfl⟩) hK (hP.sub (ws' := [(h0, .inr (3, mdv ast aim akt md)), (ast, .inl (cI, 23, .inl st))]) [0, 1] rfl) (hD.sub (ws' := [(h0, .inr (3, mdv ast aim akt md)), (ast, .inl (cI, 23, .inl st))]) [0, 1] (by decide) rfl) 0 3 rfl rfl rfl rfl hl.1 rfl (Nat.le_of_ble_eq_true rfl) dX3_worst_14 (Nat.zero_le _) (Nat.zero_le _)) hP hD hS hA [0, 1] [] rfl rfl (by decide) (by decide) (fun z9 u9 H locs hw hP hD hS => ?_)
    obtain ⟨rfl, rfl⟩ : (F_X3_layTaken st md).1 = z9 ∧ (F_X3_layTaken st md).2 = u9 := by rw [hw]; exact ⟨rfl, rfl⟩
    have hP : va_P D classes [(h0, .inr (3, mdv ast aim akt ((F_X3_layTaken st md).2))), (ast, .inl (cI, 23, .inl st))] H := hP
    have hD : va_D A [(h0, .inr (3, mdv ast aim akt ((F_X3_layTaken st md).2))), (ast, .inl (cI, 23, .inl st))] := hD
    refine lv_if_ne (tgt := 23) hx hb dX3_worst_17 (by decide) (fun c_17 => ?_) (fun c_17 => ?_)
    · refine lv_aload_n hx hb dX3_worst_23 rfl (lv_at hl 0 rfl) ?_
      refine lv_aload_n hx hb dX3_worst_24 rfl (lv_at hl 0 rfl) ?_
      refine va_get (D := D) (ci := 3) (v := .ref ast) (C := RX3) (T := TX3) (N := 16) hx hb hts iX3_worst_X3 hown hK.1 hP 0 rfl rfl 0 (by decide) (hts (.fieldLink RX3 7 "CompassBiasModel" "state" "[I") (List.mem_of_getElem? (i := 1) rfl)) (fun _ h9 => h9) rfl dX3_worst_25 ?_
      refine lv_bipush (v := 21) hx hb dX3_worst_28 (by decide) ?_
      refine va_iald hx hb hK.1 hP 1 0 rfl rfl (vp_lit (by decide)) dX3_worst_30 ?_
      refine W.eq (g2 := F0 m 31 ls [.int (st 21), .ref h0]) rfl ?_
      refine aft_i (wr := []) (run_V (As := [.int (st 21)]) (rest := []) C (c_X3_worstOf l D cI cZ h0 ast aim akt st ((F_X3_layTaken st md).2) (st 21) hm) (cwV 1 hts gX3_worst_X3_worstOf rfl rfl rfl (by decide +kernel) ⟨Nat.le_of_ble_eq_true rfl, Nat.le_of_ble_eq_true rfl⟩) hK (hP.sub (ws' := [(h0, .inr (3, mdv ast aim akt ((F_X3_layTaken st md).2))), (ast, .inl (cI, 23, .inl st))]) [0, 1] rfl) (hD.sub (ws' := [(h0, .inr (3, mdv ast aim akt ((F_X3_layTaken st md).2))), (ast, .inl (cI, 23, .inl st))]) [0, 1] (by decide) rfl) 0 3 rfl rfl rfl rfl hl.1 rfl (Nat.le_of_ble_eq_true rfl) dX3_worst_31 (Nat.zero_le _) (Nat.zero_le _)) hP hD hS hA [0, 1] [] rfl rfl (by decide) (by decide) (fun z9 u9 H locs hw hP hD hS => ?_)
      subst hw
      have hP : va_P D classes [(h0, .inr (3, mdv ast aim akt ((F_X3_layTaken st md).2))), (ast, .inl (cI, 23, .inl st))] H := hP
      have hD : va_D A [(h0, .inr (3, mdv ast aim akt ((F_X3_layTaken st md).2))), (ast, .inl (cI, 23, .inl st))] := hD
      refine lv_istore_n (lv' := [(2, .int (F_X3_worstOf st ((F_X3_layTaken st md).2) (st 21))), (0, .ref h0), (1, .int p0)]) hx hb dX3_worst_34 rfl hl (by decide) rfl (fun ls hl => ?_)
      refine lv_iload_n hx hb dX3_worst_35 rfl (lv_at hl 2 rfl) ?_
      refine lv_if_ne (tgt := 43) hx hb dX3_worst_36 (by decide) (fun c_36 => ?_) (fun c_36 => ?_)
      · refine lv_aload_n hx hb dX3_worst_43 rfl (lv_at hl 1 rfl) ?_
        refine lv_iload_n hx hb dX3_worst_44 rfl (lv_at hl 0 rfl) ?_
        refine aft_l (wr := []) (run_V (As := [.int (F_X3_worstOf st ((F_X3_layTaken st md).2) (st 21))]) (rest := []) C (c_X3_offOf l D cI cZ h0 ast aim akt st ((F_X3_layTaken st md).2) (F_X3_worstOf st ((F_X3_layTaken st md).2) (st 21)) (layT_wx hm c_17) (layT_wy hm c_17)) (cwV 1 hts gX3_worst_X3_offOf rfl rfl rfl (by decide +kernel) ⟨Nat.le_of_ble_eq_true rfl, Nat.le_of_ble_eq_true rfl⟩) hK (hP.sub (ws' := [(h0, .inr (3, mdv ast aim akt ((F_X3_layTaken st md).2))), (ast, .inl (cI, 23, .inl st))]) [0, 1] rfl) (hD.sub (ws' := [(h0, .inr (3, mdv ast aim akt ((F_X3_layTaken st md).2))), (ast, .inl (cI, 23, .inl st))]) [0, 1] (by decide) rfl) 0 3 rfl rfl rfl rfl hl.1 rfl (Nat.le_of_ble_eq_true rfl) dX3_worst_45 (Nat.zero_le _) (Nat.zero_le _)) hP hD hS hA [0, 1] [] rfl rfl (by decide) (by decide) (fun z9 u9 H locs hw hP hD hS => ?_)
        subst hw
        have hP : va_P D classes [(h0, .inr (3, mdv ast aim akt ((F_X3_layTaken st md).2))), (ast, .inl (cI, 23, .inl st))] H := hP
        have hD : va_D A [(h0, .inr (3, mdv ast aim akt ((F_X3_layTaken st md).2))), (ast, .inl (cI, 23, .inl st))] := hD
        refine aft_l (wr := [(h0, .inr (3, mdv ast aim akt ((F_X3_layTaken st md).2))), (ast, .inl (cI, 23, .inl st))]) (run_S (As := [.long (F_X3_offOf st ((F_X3_layTaken st md).2) (F_X3_worstOf st ((F_X3_layTaken st md).2) (st 21)))]) (rest := []) C (c_X3_plain l D cI cZ (F_X3_offOf st ((F_X3_layTaken st md).2) (F_X3_worstOf st ((F_X3_layTaken st md).2) (st 21)))) (va_cwS 1 hts gX3_worst_X3_plain rfl rfl rfl (by decide +kernel) ⟨Nat.le_of_ble_eq_true rfl, Nat.le_of_ble_eq_true rfl⟩) hK (hP.sub (ws' := []) [] rfl) (hD.sub (ws' := []) [] (by decide) rfl) rfl hl.1 rfl (Nat.le_of_ble_eq_true rfl) dX3_worst_48 (Nat.zero_le _) (Nat.zero_le _)) hP hD hS hA [] [0, 1] rfl rfl (by decide) (by decide) (fun z9 u9 H locs hw hP hD hS => ?_)
        subst hw
        have hP : va_P D classes [(h0, .inr (3, mdv ast aim akt ((F_X3_layTaken st md).2))), (ast, .inl (cI, 23, .inl st))] H := hP
        have hD : va_D A [(h0, .inr (3, mdv ast aim akt ((F_X3_layTaken st md).2))), (ast, .inl (cI, 23, .inl st))] := hD
        refine lv_aload_n hx hb dX3_worst_51 rfl (lv_at hl 1 rfl) ?_
        refine va_get (D := D) (ci := 3) (v := .long (((F_X3_layTaken st md).2).2.2.2.2.2.2.2.2.2.2.2.2)) (C := RX3) (T := TX3) (N := 16) hx hb hts iX3_worst_X3 hown hK.1 hP 0 rfl rfl 15 (by decide) (hts (.fieldLink RX3 80 "CompassBiasModel" "by" "J") (List.mem_of_getElem? (i := 2) rfl)) (fun _ h9 => h9) rfl dX3_worst_52 ?_
        refine lv_ldiv hx hb dX3_worst_55 (layT_by c_17) ?_
        refine lv_l2i (v := ((F_X3_plain (F_X3_offOf st ((F_X3_layTaken st md).2) (F_X3_worstOf st ((F_X3_layTaken st md).2) (st 21)))) / (((F_X3_layTaken st md).2).2.2.2.2.2.2.2.2.2.2.2.2)).toInt32) hx hb dX3_worst_56 rfl ?_
        exact ret_i C ((F_X3_layTaken st md).2) ((if_neg c_7).trans ((if_neg c_17).trans ((if_neg c_36)))) hP hD hS dX3_worst_57
      · refine lv_iload_n hx hb dX3_worst_39 rfl (lv_at hl 0 rfl) ?_
        refine lv_goto (tgt := 57) hx hb dX3_worst_40 (by decide) ?_
        exact ret_i C ((F_X3_layTaken st md).2) ((if_neg c_7).trans ((if_neg c_17).trans ((if_pos c_36)))) hP hD hS dX3_worst_57
    · refine lv_bipush (v := (-5)) hx hb dX3_worst_20 (by decide) ?_
      exact ret_i C ((F_X3_layTaken st md).2) ((if_neg c_7).trans ((if_pos c_17))) hP hD hS dX3_worst_22
  · refine lv_bipush (v := (-2)) hx hb dX3_worst_10 (by decide) ?_
    exact ret_i C md (if_pos c_7) hP hD hS dX3_worst_12
def L_X3_image_15 (st : Nat → Int32) (kt : Nat → Int32) (p0 : Int32) : Nat → Int32 → (Nat → Int32) → Int32 × (Nat → Int32) × (Nat → Int32)
  | 0, _, _ => (0, fun _ => 0, fun _ => 0)
  | n + 1, i, z => if 23 ≤ i then ((1, z, upd kt p0.toNatClampNeg (vp_nar .boolean 1))) else (L_X3_image_15 st kt p0 n (i + 1) (upd z ((23 * p0) + i).toNatClampNeg (st i.toNatClampNeg)))
def F_X3_image (st : Nat → Int32) (im : Nat → Int32) (kt : Nat → Int32) (p0 : Int32) : Int32 × (Nat → Int32) × (Nat → Int32) := if (F_X3_in p0.toInt64 0 1) = 0 then (((-2), im, kt)) else (L_X3_image_15 st kt p0 24 0 im)
theorem iX3_image_X3 : ∀ w ∈ u_ws RX3 TX3 16, w ∈ wsX3_image := fun _ h => List.mem_cons_of_mem _ (List.mem_append_right _ (h))
set_option maxHeartbeats 4000000 in
set_option maxRecDepth 100000 in
theorem c_X3_image (l : Launch) (D : va_G) (cI cZ : ClassId) (h0 ast aim akt : Nat) (st : Nat → Int32) (im : Nat → Int32) (kt : Nat → Int32) (md : Rd) (p0 : Int32) : CTi l yX3_image wsX3_image ({ frames := 1, cells := 0, slots := 0, locals := 25 } : Room) D cI cZ [.ref h0, .int p0] [(h0, .inr (3, mdv ast aim akt md)), (ast, .inl (cI, 23, .inl st)), (aim, .inl (cI, 46, .inl im)), (akt, .inl (cZ, 2, .inl kt))] (S := (Nat → Int32) × (Nat → Int32)) (fun z9 u9 => F_X3_image st im kt p0 = (z9, u9)) (fun u => [(h0, .inr (3, mdv ast aim akt md)), (ast, .inl (cI, 23, .inl st)), (aim, .inl (cI, 46, .inl u.1)), (akt, .inl (cZ, 2, .inl u.2))]) := by
  refine enterM (cc := cX3_image) (maxL := 3) (ret := (some .int)) (own := RX3) (Qc := fun A => va_Qi (S := (Nat → Int32) × (Nat → Int32)) (fun z9 u9 => F_X3_image st im kt p0 = (z9, u9)) (PoB (S := (Nat → Int32) × (Nat → Int32)) D A (fun u => [(h0, .inr (3, mdv ast aim akt md)), (ast, .inl (cI, 23, .inl st)), (aim, .inl (cI, 46, .inl u.1)), (akt, .inl (cZ, 2, .inl u.2))])) A) (by decide) rfl rfl (Nat.le_of_ble_eq_true rfl) ?_
  intro p e s m below meth c A ls C hK hA hP hD hS hl
  have hx := C.1
  have hb := C.2.1
  have hown := C.2.2.2.1
  have hts := C.2.2.2.2.1
  have _huse := hts
  have K15 : ∀ (n : Nat) (k : Nat) (i : Int32) (z : Nat → Int32) (_ : ¬ F_X3_in p0.toInt64 0 1 = 0) (_ : i.toInt = (k : Int)) (_ : k ≤ 23) (_ : 23 < k + n) (X : Int32 × (Nat → Int32) × (Nat → Int32)) (_ : X = L_X3_image_15 st kt p0 n i z) (H : Heap) (locs : List Loc) (_ : va_P D classes [(h0, .inr (3, mdv ast aim akt md)), (ast, .inl (cI, 23, .inl st)), (aim, .inl (cI, 46, .inl z)), (akt, .inl (cZ, 2, .inl kt))] H) (_ : va_D A [(h0, .inr (3, mdv ast aim akt md)), (ast, .inl (cI, 23, .inl st)), (aim, .inl (cI, 46, .inl z)), (akt, .inl (cZ, 2, .inl kt))]) (_ : va_S A s.heap H locs) (ls : Array Slot) (_ : lv_has ls 3 [(0, .ref h0), (1, .int p0), (2, .int i)]), W p l e ({ frames := 1, cells := 0, slots := 0, locals := 25 } : Room) s m [.ref h0, .int p0].toArray below meth c H locs 0 0 (MQ below (va_Qi (S := (Nat → Int32) × (Nat → Int32)) (fun z9 u9 => X = (z9, u9)) (PoB (S := (Nat → Int32) × (Nat → Int32)) D A (fun u => [(h0, .inr (3, mdv ast aim akt md)), (ast, .inl (cI, 23, .inl st)), (aim, .inl (cI, 46, .inl u.1)), (akt, .inl (cZ, 2, .inl u.2))])) A) [.ref h0, .int p0].toArray s 0 0 A) (F0 m 15 ls []) := by
    intro n
    induction n with
    | zero =>
      intro k i z hp hi hk hfu X hX H locs hP hD hS ls hl
      exact absurd hfu (by omega)
    | succ n ih =>
      intro k i z hp hi hk hfu X hX H locs hP hD hS ls hl
      refine lv_iload_n hx hb dX3_image_15 rfl (lv_at hl 2 rfl) ?_
      refine lv_bipush (v := 23) hx hb dX3_image_16 (by decide) ?_
      refine lv_icmp_ge (tgt := 44) hx hb dX3_image_18 (by decide) (fun c_18 => ?_) (fun c_18 => ?_)
      · refine lv_aload_n hx hb dX3_image_44 rfl (lv_at hl 0 rfl) ?_
        refine va_get (D := D) (ci := 3) (v := .ref akt) (C := RX3) (T := TX3) (N := 16) hx hb hts iX3_image_X3 hown hK.1 hP 0 rfl rfl 2 (by decide) (hts (.fieldLink RX3 16 "CompassBiasModel" "isKept" "[Z") (List.mem_of_getElem? (i := 3) rfl)) (fun _ h9 => h9) rfl dX3_image_45 ?_
        refine lv_iload_n hx hb dX3_image_48 rfl (lv_at hl 1 rfl) ?_
        refine lv_iconst (v := 1) hx hb dX3_image_49 (by decide) ?_
        refine va_zast hx hb hK.1 hP hD hS 3 1 rfl rfl (vp_kt hp) dX3_image_50 (fun H locs hP hD hS => ?_)
        have hP : va_P D classes [(h0, .inr (3, mdv ast aim akt md)), (ast, .inl (cI, 23, .inl st)), (aim, .inl (cI, 46, .inl z)), (akt, .inl (cZ, 2, .inl (upd kt p0.toNatClampNeg (vp_nar .boolean 1))))] H := hP
        have hD : va_D A [(h0, .inr (3, mdv ast aim akt md)), (ast, .inl (cI, 23, .inl st)), (aim, .inl (cI, 46, .inl z)), (akt, .inl (cZ, 2, .inl (upd kt p0.toNatClampNeg (vp_nar .boolean 1))))] := hD
        refine lv_iconst (v := 1) hx hb dX3_image_51 (by decide) ?_
        exact ret_i C (z, upd kt p0.toNatClampNeg (vp_nar .boolean 1)) (hX.trans ((if_pos c_18))) hP hD hS dX3_image_52
      · refine lv_aload_n hx hb dX3_image_21 rfl (lv_at hl 0 rfl) ?_
        refine va_get (D := D) (ci := 3) (v := .ref aim) (C := RX3) (T := TX3) (N := 16) hx hb hts iX3_image_X3 hown hK.1 hP 0 rfl rfl 1 (by decide) (hts (.fieldLink RX3 13 "CompassBiasModel" "images" "[I") (List.mem_of_getElem? (i := 1) rfl)) (fun _ h9 => h9) rfl dX3_image_22 ?_
        refine lv_bipush (v := 23) hx hb dX3_image_25 (by decide) ?_
        refine lv_iload_n hx hb dX3_image_27 rfl (lv_at hl 1 rfl) ?_
        refine lv_imul hx hb dX3_image_28 ?_
        refine lv_iload_n hx hb dX3_image_29 rfl (lv_at hl 2 rfl) ?_
        refine lv_iadd hx hb dX3_image_30 ?_
        refine lv_aload_n hx hb dX3_image_31 rfl (lv_at hl 0 rfl) ?_
        refine va_get (D := D) (ci := 3) (v := .ref ast) (C := RX3) (T := TX3) (N := 16) hx hb hts iX3_image_X3 hown hK.1 hP 0 rfl rfl 0 (by decide) (hts (.fieldLink RX3 7 "CompassBiasModel" "state" "[I") (List.mem_of_getElem? (i := 2) rfl)) (fun _ h9 => h9) rfl dX3_image_32 ?_
        refine lv_iload_n hx hb dX3_image_35 rfl (lv_at hl 2 rfl) ?_
        refine va_iald hx hb hK.1 hP 1 0 rfl rfl (vp_of hi (i_lt23 hi c_18)) dX3_image_36 ?_
        refine va_iast hx hb hK.1 hP hD hS 2 0 rfl rfl (vp_im hp hi (i_lt23 hi c_18)) dX3_image_37 (fun H locs hP hD hS => ?_)
        have hP : va_P D classes [(h0, .inr (3, mdv ast aim akt md)), (ast, .inl (cI, 23, .inl st)), (aim, .inl (cI, 46, .inl (upd z ((23 * p0) + i).toNatClampNeg (st i.toNatClampNeg)))), (akt, .inl (cZ, 2, .inl kt))] H := hP
        have hD : va_D A [(h0, .inr (3, mdv ast aim akt md)), (ast, .inl (cI, 23, .inl st)), (aim, .inl (cI, 46, .inl (upd z ((23 * p0) + i).toNatClampNeg (st i.toNatClampNeg)))), (akt, .inl (cZ, 2, .inl kt))] := hD
        refine lv_iinc (v := i + 1) (lv' := [(2, .int (i + 1)), (0, .ref h0), (1, .int p0)]) hx hb dX3_image_38 hl (k := 2) rfl rfl (by decide) rfl (fun ls hl => ?_)
        refine lv_goto (tgt := 15) hx hb dX3_image_41 (by decide) ?_
        exact ih (k + 1) (i + 1) (upd z ((23 * p0) + i).toNatClampNeg (st i.toNatClampNeg)) hp (i_succ hi (by omega)) (i_lt23 hi c_18) (by omega) X (hX.trans ((if_neg c_18))) _ _ hP hD hS _ (lv_sub hl [1, 2, 0] rfl)
  have hl : lv_has ls 3 [(0, .ref h0), (1, .int p0)] := hl
  refine lv_iload_n hx hb dX3_image_0 rfl (lv_at hl 1 rfl) ?_
  refine lv_i2l (v := p0.toInt64) hx hb dX3_image_1 rfl ?_
  refine lv_lconst (v := 0) hx hb dX3_image_2 (by decide) ?_
  refine lv_lconst (v := 1) hx hb dX3_image_3 (by decide) ?_
  refine aft_i (wr := [(h0, .inr (3, mdv ast aim akt md)), (ast, .inl (cI, 23, .inl st)), (aim, .inl (cI, 46, .inl im)), (akt, .inl (cZ, 2, .inl kt))]) (run_S (As := [.long p0.toInt64, .long 0, .long 1]) (rest := []) C (c_X3_in l D cI cZ p0.toInt64 0 1) (va_cwS 3 hts gX3_image_X3_in rfl rfl rfl (by decide +kernel) ⟨Nat.le_of_ble_eq_true rfl, Nat.le_of_ble_eq_true rfl⟩) hK (hP.sub (ws' := []) [] rfl) (hD.sub (ws' := []) [] (by decide) rfl) rfl hl.1 rfl (Nat.le_of_ble_eq_true rfl) dX3_image_4 (Nat.zero_le _) (Nat.zero_le _)) hP hD hS hA [] [0, 1, 2, 3] rfl rfl (by decide) (by decide) (fun z9 u9 H locs hw hP hD hS => ?_)
  subst hw
  have hP : va_P D classes [(h0, .inr (3, mdv ast aim akt md)), (ast, .inl (cI, 23, .inl st)), (aim, .inl (cI, 46, .inl im)), (akt, .inl (cZ, 2, .inl kt))] H := hP
  have hD : va_D A [(h0, .inr (3, mdv ast aim akt md)), (ast, .inl (cI, 23, .inl st)), (aim, .inl (cI, 46, .inl im)), (akt, .inl (cZ, 2, .inl kt))] := hD
  refine lv_if_ne (tgt := 13) hx hb dX3_image_7 (by decide) (fun c_7 => ?_) (fun c_7 => ?_)
  · refine lv_iconst (v := 0) hx hb dX3_image_13 (by decide) ?_
    refine lv_istore_n (lv' := [(2, .int 0), (0, .ref h0), (1, .int p0)]) hx hb dX3_image_14 rfl hl (by decide) rfl (fun ls hl => ?_)
    exact K15 24 0 0 im c_7 rfl (by omega) (by omega) (F_X3_image st im kt p0) (if_neg c_7) _ _ hP hD hS _ (lv_sub hl [1, 2, 0] rfl)
  · refine lv_bipush (v := (-2)) hx hb dX3_image_10 (by decide) ?_
    exact ret_i C (im, kt) (if_pos c_7) hP hD hS dX3_image_12
def L_X3_restore_27 (im : Nat → Int32) (kt : Nat → Int32) (p0 : Int32) : Nat → Int32 → (Nat → Int32) → Int32 × (Nat → Int32)
  | 0, _, _ => (0, fun _ => 0)
  | n + 1, i, z => if 23 ≤ i then ((1, z)) else (L_X3_restore_27 im kt p0 n (i + 1) (upd z i.toNatClampNeg (im ((23 * p0) + i).toNatClampNeg)))
def F_X3_restore (st : Nat → Int32) (im : Nat → Int32) (kt : Nat → Int32) (p0 : Int32) : Int32 × (Nat → Int32) := if (F_X3_in p0.toInt64 0 1) = 0 then (((-2), st)) else (if (kt p0.toNatClampNeg) = 0 then (((-3), st)) else (L_X3_restore_27 im kt p0 24 0 st))
theorem iX3_restore_X3 : ∀ w ∈ u_ws RX3 TX3 16, w ∈ wsX3_restore := fun _ h => List.mem_cons_of_mem _ (List.mem_append_right _ (h))
set_option maxHeartbeats 4000000 in
set_option maxRecDepth 100000 in
theorem c_X3_restore (l : Launch) (D : va_G) (cI cZ : ClassId) (h0 ast aim akt : Nat) (st : Nat → Int32) (im : Nat → Int32) (kt : Nat → Int32) (md : Rd) (p0 : Int32) : CTi l yX3_restore wsX3_restore ({ frames := 1, cells := 0, slots := 0, locals := 25 } : Room) D cI cZ [.ref h0, .int p0] [(h0, .inr (3, mdv ast aim akt md)), (ast, .inl (cI, 23, .inl st)), (aim, .inl (cI, 46, .inl im)), (akt, .inl (cZ, 2, .inl kt))] (S := (Nat → Int32)) (fun z9 u9 => F_X3_restore st im kt p0 = (z9, u9)) (fun u => [(h0, .inr (3, mdv ast aim akt md)), (ast, .inl (cI, 23, .inl u)), (aim, .inl (cI, 46, .inl im)), (akt, .inl (cZ, 2, .inl kt))]) := by
  refine enterM (cc := cX3_restore) (maxL := 3) (ret := (some .int)) (own := RX3) (Qc := fun A => va_Qi (S := (Nat → Int32)) (fun z9 u9 => F_X3_restore st im kt p0 = (z9, u9)) (PoB (S := (Nat → Int32)) D A (fun u => [(h0, .inr (3, mdv ast aim akt md)), (ast, .inl (cI, 23, .inl u)), (aim, .inl (cI, 46, .inl im)), (akt, .inl (cZ, 2, .inl kt))])) A) (by decide) rfl rfl (Nat.le_of_ble_eq_true rfl) ?_
  intro p e s m below meth c A ls C hK hA hP hD hS hl
  have hx := C.1
  have hb := C.2.1
  have hown := C.2.2.2.1
  have hts := C.2.2.2.2.1
  have _huse := hts
  have K27 : ∀ (n : Nat) (k : Nat) (i : Int32) (z : Nat → Int32) (_ : ¬ F_X3_in p0.toInt64 0 1 = 0) (_ : i.toInt = (k : Int)) (_ : k ≤ 23) (_ : 23 < k + n) (X : Int32 × (Nat → Int32)) (_ : X = L_X3_restore_27 im kt p0 n i z) (H : Heap) (locs : List Loc) (_ : va_P D classes [(h0, .inr (3, mdv ast aim akt md)), (ast, .inl (cI, 23, .inl z)), (aim, .inl (cI, 46, .inl im)), (akt, .inl (cZ, 2, .inl kt))] H) (_ : va_D A [(h0, .inr (3, mdv ast aim akt md)), (ast, .inl (cI, 23, .inl z)), (aim, .inl (cI, 46, .inl im)), (akt, .inl (cZ, 2, .inl kt))]) (_ : va_S A s.heap H locs) (ls : Array Slot) (_ : lv_has ls 3 [(0, .ref h0), (1, .int p0), (2, .int i)]), W p l e ({ frames := 1, cells := 0, slots := 0, locals := 25 } : Room) s m [.ref h0, .int p0].toArray below meth c H locs 0 0 (MQ below (va_Qi (S := (Nat → Int32)) (fun z9 u9 => X = (z9, u9)) (PoB (S := (Nat → Int32)) D A (fun u => [(h0, .inr (3, mdv ast aim akt md)), (ast, .inl (cI, 23, .inl u)), (aim, .inl (cI, 46, .inl im)), (akt, .inl (cZ, 2, .inl kt))])) A) [.ref h0, .int p0].toArray s 0 0 A) (F0 m 27 ls []) := by
    intro n
    induction n with
    | zero =>
      intro k i z hp hi hk hfu X hX H locs hP hD hS ls hl
      exact absurd hfu (by omega)
    | succ n ih =>
      intro k i z hp hi hk hfu X hX H locs hP hD hS ls hl
      refine lv_iload_n hx hb dX3_restore_27 rfl (lv_at hl 2 rfl) ?_
      refine lv_bipush (v := 23) hx hb dX3_restore_28 (by decide) ?_
      refine lv_icmp_ge (tgt := 56) hx hb dX3_restore_30 (by decide) (fun c_30 => ?_) (fun c_30 => ?_)
      · refine lv_iconst (v := 1) hx hb dX3_restore_56 (by decide) ?_
        exact ret_i C z (hX.trans ((if_pos c_30))) hP hD hS dX3_restore_57
      · refine lv_aload_n hx hb dX3_restore_33 rfl (lv_at hl 0 rfl) ?_
        refine va_get (D := D) (ci := 3) (v := .ref ast) (C := RX3) (T := TX3) (N := 16) hx hb hts iX3_restore_X3 hown hK.1 hP 0 rfl rfl 0 (by decide) (hts (.fieldLink RX3 7 "CompassBiasModel" "state" "[I") (List.mem_of_getElem? (i := 2) rfl)) (fun _ h9 => h9) rfl dX3_restore_34 ?_
        refine lv_iload_n hx hb dX3_restore_37 rfl (lv_at hl 2 rfl) ?_
        refine lv_aload_n hx hb dX3_restore_38 rfl (lv_at hl 0 rfl) ?_
        refine va_get (D := D) (ci := 3) (v := .ref aim) (C := RX3) (T := TX3) (N := 16) hx hb hts iX3_restore_X3 hown hK.1 hP 0 rfl rfl 1 (by decide) (hts (.fieldLink RX3 13 "CompassBiasModel" "images" "[I") (List.mem_of_getElem? (i := 3) rfl)) (fun _ h9 => h9) rfl dX3_restore_39 ?_
        refine lv_bipush (v := 23) hx hb dX3_restore_42 (by decide) ?_
        refine lv_iload_n hx hb dX3_restore_44 rfl (lv_at hl 1 rfl) ?_
        refine lv_imul hx hb dX3_restore_45 ?_
        refine lv_iload_n hx hb dX3_restore_46 rfl (lv_at hl 2 rfl) ?_
        refine lv_iadd hx hb dX3_restore_47 ?_
        refine va_iald hx hb hK.1 hP 2 0 rfl rfl (vp_im hp hi (i_lt23 hi c_30)) dX3_restore_48 ?_
        refine va_iast hx hb hK.1 hP hD hS 1 0 rfl rfl (vp_of hi (i_lt23 hi c_30)) dX3_restore_49 (fun H locs hP hD hS => ?_)
        have hP : va_P D classes [(h0, .inr (3, mdv ast aim akt md)), (ast, .inl (cI, 23, .inl (upd z i.toNatClampNeg (im ((23 * p0) + i).toNatClampNeg)))), (aim, .inl (cI, 46, .inl im)), (akt, .inl (cZ, 2, .inl kt))] H := hP
        have hD : va_D A [(h0, .inr (3, mdv ast aim akt md)), (ast, .inl (cI, 23, .inl (upd z i.toNatClampNeg (im ((23 * p0) + i).toNatClampNeg)))), (aim, .inl (cI, 46, .inl im)), (akt, .inl (cZ, 2, .inl kt))] := hD
        refine lv_iinc (v := i + 1) (lv' := [(2, .int (i + 1)), (0, .ref h0), (1, .int p0)]) hx hb dX3_restore_50 hl (k := 2) rfl rfl (by decide) rfl (fun ls hl => ?_)
        refine lv_goto (tgt := 27) hx hb dX3_restore_53 (by decide) ?_
        exact ih (k + 1) (i + 1) (upd z i.toNatClampNeg (im ((23 * p0) + i).toNatClampNeg)) hp (i_succ hi (by omega)) (i_lt23 hi c_30) (by omega) X (hX.trans ((if_neg c_30))) _ _ hP hD hS _ (lv_sub hl [1, 2, 0] rfl)
  have hl : lv_has ls 3 [(0, .ref h0), (1, .int p0)] := hl
  refine lv_iload_n hx hb dX3_restore_0 rfl (lv_at hl 1 rfl) ?_
  refine lv_i2l (v := p0.toInt64) hx hb dX3_restore_1 rfl ?_
  refine lv_lconst (v := 0) hx hb dX3_restore_2 (by decide) ?_
  refine lv_lconst (v := 1) hx hb dX3_restore_3 (by decide) ?_
  refine aft_i (wr := [(h0, .inr (3, mdv ast aim akt md)), (ast, .inl (cI, 23, .inl st)), (aim, .inl (cI, 46, .inl im)), (akt, .inl (cZ, 2, .inl kt))]) (run_S (As := [.long p0.toInt64, .long 0, .long 1]) (rest := []) C (c_X3_in l D cI cZ p0.toInt64 0 1) (va_cwS 3 hts gX3_restore_X3_in rfl rfl rfl (by decide +kernel) ⟨Nat.le_of_ble_eq_true rfl, Nat.le_of_ble_eq_true rfl⟩) hK (hP.sub (ws' := []) [] rfl) (hD.sub (ws' := []) [] (by decide) rfl) rfl hl.1 rfl (Nat.le_of_ble_eq_true rfl) dX3_restore_4 (Nat.zero_le _) (Nat.zero_le _)) hP hD hS hA [] [0, 1, 2, 3] rfl rfl (by decide) (by decide) (fun z9 u9 H locs hw hP hD hS => ?_)
  subst hw
  have hP : va_P D classes [(h0, .inr (3, mdv ast aim akt md)), (ast, .inl (cI, 23, .inl st)), (aim, .inl (cI, 46, .inl im)), (akt, .inl (cZ, 2, .inl kt))] H := hP
  have hD : va_D A [(h0, .inr (3, mdv ast aim akt md)), (ast, .inl (cI, 23, .inl st)), (aim, .inl (cI, 46, .inl im)), (akt, .inl (cZ, 2, .inl kt))] := hD
  refine lv_if_ne (tgt := 13) hx hb dX3_restore_7 (by decide) (fun c_7 => ?_) (fun c_7 => ?_)
  · refine lv_aload_n hx hb dX3_restore_13 rfl (lv_at hl 0 rfl) ?_
    refine va_get (D := D) (ci := 3) (v := .ref akt) (C := RX3) (T := TX3) (N := 16) hx hb hts iX3_restore_X3 hown hK.1 hP 0 rfl rfl 2 (by decide) (hts (.fieldLink RX3 16 "CompassBiasModel" "isKept" "[Z") (List.mem_of_getElem? (i := 1) rfl)) (fun _ h9 => h9) rfl dX3_restore_14 ?_
    refine lv_iload_n hx hb dX3_restore_17 rfl (lv_at hl 1 rfl) ?_
    refine va_zald hx hb hK.1 hP 3 1 rfl rfl (vp_kt c_7) dX3_restore_18 ?_
    refine lv_if_ne (tgt := 25) hx hb dX3_restore_19 (by decide) (fun c_19 => ?_) (fun c_19 => ?_)
    · refine lv_iconst (v := 0) hx hb dX3_restore_25 (by decide) ?_
      refine lv_istore_n (lv' := [(2, .int 0), (0, .ref h0), (1, .int p0)]) hx hb dX3_restore_26 rfl hl (by decide) rfl (fun ls hl => ?_)
      exact K27 24 0 0 st c_7 rfl (by omega) (by omega) (F_X3_restore st im kt p0) ((if_neg c_7).trans ((if_neg c_19))) _ _ hP hD hS _ (lv_sub hl [1, 2, 0] rfl)
    · refine lv_bipush (v := (-3)) hx hb dX3_restore_22 (by decide) ?_
      exact ret_i C st ((if_neg c_7).trans ((if_pos c_19))) hP hD hS dX3_restore_24
  · refine lv_bipush (v := (-2)) hx hb dX3_restore_10 (by decide) ?_
    exact ret_i C st (if_pos c_7) hP hD hS dX3_restore_12
def F_X3_count (st : Nat → Int32) (kt : Nat → Int32) (md : Rd) (p0 : Int32) : Int32 × Rd := if p0 = 0 then ((st 20, md)) else (if p0 = 1 then ((F_X3_size (st 21), md)) else (if p0 = 2 then ((st 21, md)) else (if p0 = 3 then ((st 22, md)) else (if p0 = 4 then (if ((F_X3_layTaken st md).1) = 0 then ((1, (F_X3_layTaken st md).2)) else ((0, (F_X3_layTaken st md).2))) else (if p0 = 5 then (if (kt 0) = 0 then (if (kt 1) = 0 then ((0 + 0, md)) else ((0 + 2, md))) else (if (kt 1) = 0 then ((1 + 0, md)) else ((1 + 2, md)))) else (((-2), md)))))))
theorem iX3_count_X3 : ∀ w ∈ u_ws RX3 TX3 16, w ∈ wsX3_count := fun _ h => List.mem_cons_of_mem _ (List.mem_append_right _ (h))
set_option maxHeartbeats 4000000 in
set_option maxRecDepth 100000 in
theorem c_X3_count (l : Launch) (D : va_G) (cI cZ : ClassId) (h0 ast aim akt : Nat) (st : Nat → Int32) (im : Nat → Int32) (kt : Nat → Int32) (md : Rd) (p0 : Int32) (hm : MB st) : CTi l yX3_count wsX3_count ({ frames := 5, cells := 0, slots := 0, locals := 107 } : Room) D cI cZ [.ref h0, .int p0] [(h0, .inr (3, mdv ast aim akt md)), (ast, .inl (cI, 23, .inl st)), (aim, .inl (cI, 46, .inl im)), (akt, .inl (cZ, 2, .inl kt))] (S := Rd) (fun z9 u9 => F_X3_count st kt md p0 = (z9, u9)) (fun u => [(h0, .inr (3, mdv ast aim akt u)), (ast, .inl (cI, 23, .inl st)), (aim, .inl (cI, 46, .inl im)), (akt, .inl (cZ, 2, .inl kt))]) := by
  refine enterM (cc := cX3_count) (maxL := 2) (ret := (some .int)) (own := RX3) (Qc := fun A => va_Qi (S := Rd) (fun z9 u9 => F_X3_count st kt md p0 = (z9, u9)) (PoB (S := Rd) D A (fun u => [(h0, .inr (3, mdv ast aim akt u)), (ast, .inl (cI, 23, .inl st)), (aim, .inl (cI, 46, .inl im)), (akt, .inl (cZ, 2, .inl kt))])) A) (by decide) rfl rfl (Nat.le_of_ble_eq_true rfl) ?_
  intro p e s m below meth c A ls C hK hA hP hD hS hl
  have hx := C.1
  have hb := C.2.1
  have hown := C.2.2.2.1
  have hts := C.2.2.2.2.1
  have _huse := hts
  have hl : lv_has ls 2 [(0, .ref h0), (1, .int p0)] := hl
  refine lv_iload_n hx hb dX3_count_0 rfl (lv_at hl 1 rfl) ?_
  by_cases c_1_0 : p0 = 0
  · refine lv_tableIn (off := 39) (tgt := 40) hx hb dX3_count_1 (by rw [c_1_0]; decide) (by rw [c_1_0]; decide) (by rw [c_1_0]; rfl) (by decide) ?_
    refine lv_aload_n hx hb dX3_count_40 rfl (lv_at hl 0 rfl) ?_
    refine va_get (D := D) (ci := 3) (v := .ref ast) (C := RX3) (T := TX3) (N := 16) hx hb hts iX3_count_X3 hown hK.1 hP 0 rfl rfl 0 (by decide) (hts (.fieldLink RX3 7 "CompassBiasModel" "state" "[I") (List.mem_of_getElem? (i := 1) rfl)) (fun _ h9 => h9) rfl dX3_count_41 ?_
    refine lv_bipush (v := 20) hx hb dX3_count_44 (by decide) ?_
    refine va_iald hx hb hK.1 hP 1 0 rfl rfl (vp_lit (by decide)) dX3_count_46 ?_
    refine W.eq (g2 := F0 m 47 ls [.int (st 20)]) rfl ?_
    exact ret_i C md (if_pos c_1_0) hP hD hS dX3_count_47
  · by_cases c_1_1 : p0 = 1
    · refine lv_tableIn (off := 47) (tgt := 48) hx hb dX3_count_1 (by rw [c_1_1]; decide) (by rw [c_1_1]; decide) (by rw [c_1_1]; rfl) (by decide) ?_
      refine lv_aload_n hx hb dX3_count_48 rfl (lv_at hl 0 rfl) ?_
      refine va_get (D := D) (ci := 3) (v := .ref ast) (C := RX3) (T := TX3) (N := 16) hx hb hts iX3_count_X3 hown hK.1 hP 0 rfl rfl 0 (by decide) (hts (.fieldLink RX3 7 "CompassBiasModel" "state" "[I") (List.mem_of_getElem? (i := 1) rfl)) (fun _ h9 => h9) rfl dX3_count_49 ?_
      refine lv_bipush (v := 21) hx hb dX3_count_52 (by decide) ?_
      refine va_iald hx hb hK.1 hP 1 0 rfl rfl (vp_lit (by decide)) dX3_count_54 ?_
      refine W.eq (g2 := F0 m 55 ls [.int (st 21)]) rfl ?_
      refine aft_i (wr := [(h0, .inr (3, mdv ast aim akt md)), (ast, .inl (cI, 23, .inl st)), (aim, .inl (cI, 46, .inl im)), (akt, .inl (cZ, 2, .inl kt))]) (run_S (As := [.int (st 21)]) (rest := []) C (c_X3_size l D cI cZ (st 21)) (va_cwS 1 hts gX3_count_X3_size rfl rfl rfl (by decide +kernel) ⟨Nat.le_of_ble_eq_true rfl, Nat.le_of_ble_eq_true rfl⟩) hK (hP.sub (ws' := []) [] rfl) (hD.sub (ws' := []) [] (by decide) rfl) rfl hl.1 rfl (Nat.le_of_ble_eq_true rfl) dX3_count_55 (Nat.zero_le _) (Nat.zero_le _)) hP hD hS hA [] [0, 1, 2, 3] rfl rfl (by decide) (by decide) (fun z9 u9 H locs hw hP hD hS => ?_)
      subst hw
      have hP : va_P D classes [(h0, .inr (3, mdv ast aim akt md)), (ast, .inl (cI, 23, .inl st)), (aim, .inl (cI, 46, .inl im)), (akt, .inl (cZ, 2, .inl kt))] H := hP
      have hD : va_D A [(h0, .inr (3, mdv ast aim akt md)), (ast, .inl (cI, 23, .inl st)), (aim, .inl (cI, 46, .inl im)), (akt, .inl (cZ, 2, .inl kt))] := hD
      exact ret_i C md ((if_neg c_1_0).trans ((if_pos c_1_1))) hP hD hS dX3_count_58
    · by_cases c_1_2 : p0 = 2
      · refine lv_tableIn (off := 58) (tgt := 59) hx hb dX3_count_1 (by rw [c_1_2]; decide) (by rw [c_1_2]; decide) (by rw [c_1_2]; rfl) (by decide) ?_
        refine lv_aload_n hx hb dX3_count_59 rfl (lv_at hl 0 rfl) ?_
        refine va_get (D := D) (ci := 3) (v := .ref ast) (C := RX3) (T := TX3) (N := 16) hx hb hts iX3_count_X3 hown hK.1 hP 0 rfl rfl 0 (by decide) (hts (.fieldLink RX3 7 "CompassBiasModel" "state" "[I") (List.mem_of_getElem? (i := 1) rfl)) (fun _ h9 => h9) rfl dX3_count_60 ?_
        refine lv_bipush (v := 21) hx hb dX3_count_63 (by decide) ?_
        refine va_iald hx hb hK.1 hP 1 0 rfl rfl (vp_lit (by decide)) dX3_count_65 ?_
        refine W.eq (g2 := F0 m 66 ls [.int (st 21)]) rfl ?_
        exact ret_i C md ((if_neg c_1_0).trans ((if_neg c_1_1).trans ((if_pos c_1_2)))) hP hD hS dX3_count_66
      · by_cases c_1_3 : p0 = 3
        · refine lv_tableIn (off := 66) (tgt := 67) hx hb dX3_count_1 (by rw [c_1_3]; decide) (by rw [c_1_3]; decide) (by rw [c_1_3]; rfl) (by decide) ?_
          refine lv_aload_n hx hb dX3_count_67 rfl (lv_at hl 0 rfl) ?_
          refine va_get (D := D) (ci := 3) (v := .ref ast) (C := RX3) (T := TX3) (N := 16) hx hb hts iX3_count_X3 hown hK.1 hP 0 rfl rfl 0 (by decide) (hts (.fieldLink RX3 7 "CompassBiasModel" "state" "[I") (List.mem_of_getElem? (i := 1) rfl)) (fun _ h9 => h9) rfl dX3_count_68 ?_
          refine lv_bipush (v := 22) hx hb dX3_count_71 (by decide) ?_
          refine va_iald hx hb hK.1 hP 1 0 rfl rfl (vp_lit (by decide)) dX3_count_73 ?_
          refine W.eq (g2 := F0 m 74 ls [.int (st 22)]) rfl ?_
          exact ret_i C md ((if_neg c_1_0).trans ((if_neg c_1_1).trans ((if_neg c_1_2).trans ((if_pos c_1_3))))) hP hD hS dX3_count_74
        · by_cases c_1_4 : p0 = 4
          · refine lv_tableIn (off := 74) (tgt := 75) hx hb dX3_count_1 (by rw [c_1_4]; decide) (by rw [c_1_4]; decide) (by rw [c_1_4]; rfl) (by decide) ?_
            refine lv_aload_n hx hb dX3_count_75 rfl (lv_at hl 0 rfl) ?_
            refine aft_i (wr := [(aim, .inl (cI, 46, .inl im)), (akt, .inl (cZ, 2, .inl kt))]) (run_V (As := []) (rest := []) C (c_X3_layTaken l D cI cZ h0 ast aim akt st md hm) (cwV 0 hts gX3_count_X3_layTaken rfl rfl rfl (by decide +kernel) ⟨Nat.le_of_ble_eq_true rfl, Nat.le_of_ble_eq_true rfl⟩) hK (hP.sub (ws' := [(h0, .inr (3, mdv ast aim akt md)), (ast, .inl (cI, 23, .inl st))]) [0, 1] rfl) (hD.sub (ws' := [(h0, .inr (3, mdv ast aim akt md)), (ast, .inl (cI, 23, .inl st))]) [0, 1] (by decide) rfl) 0 3 rfl rfl rfl rfl hl.1 rfl (Nat.le_of_ble_eq_true rfl) dX3_count_76 (Nat.zero_le _) (Nat.zero_le _)) hP hD hS hA [0, 1] [2, 3] rfl rfl (by decide) (by decide) (fun z9 u9 H locs hw hP hD hS => ?_)
            obtain ⟨rfl, rfl⟩ : (F_X3_layTaken st md).1 = z9 ∧ (F_X3_layTaken st md).2 = u9 := by rw [hw]; exact ⟨rfl, rfl⟩
            have hP : va_P D classes [(aim, .inl (cI, 46, .inl im)), (akt, .inl (cZ, 2, .inl kt)), (h0, .inr (3, mdv ast aim akt ((F_X3_layTaken st md).2))), (ast, .inl (cI, 23, .inl st))] H := hP
            have hD : va_D A [(aim, .inl (cI, 46, .inl im)), (akt, .inl (cZ, 2, .inl kt)), (h0, .inr (3, mdv ast aim akt ((F_X3_layTaken st md).2))), (ast, .inl (cI, 23, .inl st))] := hD
            refine lv_if_eq (tgt := 86) hx hb dX3_count_79 (by decide) (fun c_79 => ?_) (fun c_79 => ?_)
            · refine lv_iconst (v := 1) hx hb dX3_count_86 (by decide) ?_
              exact ret_i C ((F_X3_layTaken st md).2) ((if_neg c_1_0).trans ((if_neg c_1_1).trans ((if_neg c_1_2).trans ((if_neg c_1_3).trans ((if_pos c_1_4).trans ((if_pos c_79))))))) (hP.sub (ws' := [(h0, .inr (3, mdv ast aim akt ((F_X3_layTaken st md).2))), (ast, .inl (cI, 23, .inl st)), (aim, .inl (cI, 46, .inl im)), (akt, .inl (cZ, 2, .inl kt))]) [2, 3, 0, 1] rfl) (hD.sub (ws' := [(h0, .inr (3, mdv ast aim akt ((F_X3_layTaken st md).2))), (ast, .inl (cI, 23, .inl st)), (aim, .inl (cI, 46, .inl im)), (akt, .inl (cZ, 2, .inl kt))]) [2, 3, 0, 1] (by decide) rfl) hS dX3_count_87
            · refine lv_iconst (v := 0) hx hb dX3_count_82 (by decide) ?_
              refine lv_goto (tgt := 87) hx hb dX3_count_83 (by decide) ?_
              exact ret_i C ((F_X3_layTaken st md).2) ((if_neg c_1_0).trans ((if_neg c_1_1).trans ((if_neg c_1_2).trans ((if_neg c_1_3).trans ((if_pos c_1_4).trans ((if_neg c_79))))))) (hP.sub (ws' := [(h0, .inr (3, mdv ast aim akt ((F_X3_layTaken st md).2))), (ast, .inl (cI, 23, .inl st)), (aim, .inl (cI, 46, .inl im)), (akt, .inl (cZ, 2, .inl kt))]) [2, 3, 0, 1] rfl) (hD.sub (ws' := [(h0, .inr (3, mdv ast aim akt ((F_X3_layTaken st md).2))), (ast, .inl (cI, 23, .inl st)), (aim, .inl (cI, 46, .inl im)), (akt, .inl (cZ, 2, .inl kt))]) [2, 3, 0, 1] (by decide) rfl) hS dX3_count_87
          · by_cases c_1_5 : p0 = 5
            · refine lv_tableIn (off := 87) (tgt := 88) hx hb dX3_count_1 (by rw [c_1_5]; decide) (by rw [c_1_5]; decide) (by rw [c_1_5]; rfl) (by decide) ?_
              refine lv_aload_n hx hb dX3_count_88 rfl (lv_at hl 0 rfl) ?_
              refine va_get (D := D) (ci := 3) (v := .ref akt) (C := RX3) (T := TX3) (N := 16) hx hb hts iX3_count_X3 hown hK.1 hP 0 rfl rfl 2 (by decide) (hts (.fieldLink RX3 16 "CompassBiasModel" "isKept" "[Z") (List.mem_of_getElem? (i := 2) rfl)) (fun _ h9 => h9) rfl dX3_count_89 ?_
              refine lv_iconst (v := 0) hx hb dX3_count_92 (by decide) ?_
              refine va_zald hx hb hK.1 hP 3 1 rfl rfl (vp_lit (by decide)) dX3_count_93 ?_
              refine W.eq (g2 := F0 m 94 ls [.int (kt 0)]) rfl ?_
              refine lv_if_eq (tgt := 101) hx hb dX3_count_94 (by decide) (fun c_94 => ?_) (fun c_94 => ?_)
              · refine lv_iconst (v := 0) hx hb dX3_count_101 (by decide) ?_
                refine lv_aload_n hx hb dX3_count_102 rfl (lv_at hl 0 rfl) ?_
                refine va_get (D := D) (ci := 3) (v := .ref akt) (C := RX3) (T := TX3) (N := 16) hx hb hts iX3_count_X3 hown hK.1 hP 0 rfl rfl 2 (by decide) (hts (.fieldLink RX3 16 "CompassBiasModel" "isKept" "[Z") (List.mem_of_getElem? (i := 2) rfl)) (fun _ h9 => h9) rfl dX3_count_103 ?_
                refine lv_iconst (v := 1) hx hb dX3_count_106 (by decide) ?_
                refine va_zald hx hb hK.1 hP 3 1 rfl rfl (vp_lit (by decide)) dX3_count_107 ?_
                refine W.eq (g2 := F0 m 108 ls [.int (kt 1), .int 0]) rfl ?_
                refine lv_if_eq (tgt := 115) hx hb dX3_count_108 (by decide) (fun c_108 => ?_) (fun c_108 => ?_)
                · refine lv_iconst (v := 0) hx hb dX3_count_115 (by decide) ?_
                  refine lv_iadd hx hb dX3_count_116 ?_
                  exact ret_i C md ((if_neg c_1_0).trans ((if_neg c_1_1).trans ((if_neg c_1_2).trans ((if_neg c_1_3).trans ((if_neg c_1_4).trans ((if_pos c_1_5).trans ((if_pos c_94).trans ((if_pos c_108))))))))) hP hD hS dX3_count_117
                · refine lv_iconst (v := 2) hx hb dX3_count_111 (by decide) ?_
                  refine lv_goto (tgt := 116) hx hb dX3_count_112 (by decide) ?_
                  refine lv_iadd hx hb dX3_count_116 ?_
                  exact ret_i C md ((if_neg c_1_0).trans ((if_neg c_1_1).trans ((if_neg c_1_2).trans ((if_neg c_1_3).trans ((if_neg c_1_4).trans ((if_pos c_1_5).trans ((if_pos c_94).trans ((if_neg c_108))))))))) hP hD hS dX3_count_117
              · refine lv_iconst (v := 1) hx hb dX3_count_97 (by decide) ?_
                refine lv_goto (tgt := 102) hx hb dX3_count_98 (by decide) ?_
                refine lv_aload_n hx hb dX3_count_102 rfl (lv_at hl 0 rfl) ?_
                refine va_get (D := D) (ci := 3) (v := .ref akt) (C := RX3) (T := TX3) (N := 16) hx hb hts iX3_count_X3 hown hK.1 hP 0 rfl rfl 2 (by decide) (hts (.fieldLink RX3 16 "CompassBiasModel" "isKept" "[Z") (List.mem_of_getElem? (i := 2) rfl)) (fun _ h9 => h9) rfl dX3_count_103 ?_
                refine lv_iconst (v := 1) hx hb dX3_count_106 (by decide) ?_
                refine va_zald hx hb hK.1 hP 3 1 rfl rfl (vp_lit (by decide)) dX3_count_107 ?_
                refine W.eq (g2 := F0 m 108 ls [.int (kt 1), .int 1]) rfl ?_
                refine lv_if_eq (tgt := 115) hx hb dX3_count_108 (by decide) (fun c_108 => ?_) (fun c_108 => ?_)
                · refine lv_iconst (v := 0) hx hb dX3_count_115 (by decide) ?_
                  refine lv_iadd hx hb dX3_count_116 ?_
                  exact ret_i C md ((if_neg c_1_0).trans ((if_neg c_1_1).trans ((if_neg c_1_2).trans ((if_neg c_1_3).trans ((if_neg c_1_4).trans ((if_pos c_1_5).trans ((if_neg c_94).trans ((if_pos c_108))))))))) hP hD hS dX3_count_117
                · refine lv_iconst (v := 2) hx hb dX3_count_111 (by decide) ?_
                  refine lv_goto (tgt := 116) hx hb dX3_count_112 (by decide) ?_
                  refine lv_iadd hx hb dX3_count_116 ?_
                  exact ret_i C md ((if_neg c_1_0).trans ((if_neg c_1_1).trans ((if_neg c_1_2).trans ((if_neg c_1_3).trans ((if_neg c_1_4).trans ((if_pos c_1_5).trans ((if_neg c_94).trans ((if_neg c_108))))))))) hP hD hS dX3_count_117
            · refine lv_tableOut (tgt := 118) hx hb dX3_count_1 (by have h0 := lv_neT c_1_0 (a := 0) rfl; have h1 := lv_neT c_1_1 (a := 1) rfl; have h2 := lv_neT c_1_2 (a := 2) rfl; have h3 := lv_neT c_1_3 (a := 3) rfl; have h4 := lv_neT c_1_4 (a := 4) rfl; have h5 := lv_neT c_1_5 (a := 5) rfl; omega) (by decide) ?_
              refine lv_bipush (v := (-2)) hx hb dX3_count_118 (by decide) ?_
              exact ret_i C md ((if_neg c_1_0).trans ((if_neg c_1_1).trans ((if_neg c_1_2).trans ((if_neg c_1_3).trans ((if_neg c_1_4).trans ((if_neg c_1_5))))))) hP hD hS dX3_count_120
