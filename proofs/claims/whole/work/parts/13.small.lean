def F_X2_isSample (now : Sm) (p0 : Int32) : Int32 := if p0 < 0 then (0) else (if now.2.2.1 ≤ p0 then (0) else (if 10 ≤ p0 then (0) else (1)))
theorem iX2_isSample_X1 : ∀ w ∈ u_ws RX1 TX1 5, w ∈ wsX2_isSample := fun _ h => List.mem_cons_of_mem _ (List.mem_append_right _ (h))
theorem iX2_isSample_X2 : ∀ w ∈ u_ws RX2 TX2 6, w ∈ wsX2_isSample := fun _ h => List.mem_cons_of_mem _ (List.mem_append_left _ (List.mem_append_right _ (h)))
set_option maxHeartbeats 4000000 in
set_option maxRecDepth 100000 in
theorem c_X2_isSample (l : Launch) (D : va_G) (cI cZ : ClassId) (h0 hn hi0 hi1 hR hT nx ny : Nat) (now : Sm) (kp : Int32) (p0 : Int32) : CTi l yX2_isSample wsX2_isSample ({ frames := 0, cells := 0, slots := 0, locals := 0 } : Room) D cI cZ [.ref h0, .int p0] [(h0, .inr (2, [.ref hn, .ref hi0, .ref hi1, .int kp, .ref hR, .ref hT])), (hn, .inr (1, [.ref nx, .ref ny, .int now.2.2.1, .int now.2.2.2.1, .int now.2.2.2.2])), (nx, .inl (cI, 10, .inl now.1)), (ny, .inl (cI, 10, .inl now.2.1))] (S := Unit) (fun z9 _ => F_X2_isSample now p0 = z9) (fun _ => [(h0, .inr (2, [.ref hn, .ref hi0, .ref hi1, .int kp, .ref hR, .ref hT])), (hn, .inr (1, [.ref nx, .ref ny, .int now.2.2.1, .int now.2.2.2.1, .int now.2.2.2.2])), (nx, .inl (cI, 10, .inl now.1)), (ny, .inl (cI, 10, .inl now.2.1))]) := by
  refine enterM (cc := cX2_isSample) (maxL := 2) (ret := (some .boolean)) (own := RX2) (Qc := fun A => va_Qi (S := Unit) (fun z9 _ => F_X2_isSample now p0 = z9) (PoB (S := Unit) D A (fun _ => [(h0, .inr (2, [.ref hn, .ref hi0, .ref hi1, .int kp, .ref hR, .ref hT])), (hn, .inr (1, [.ref nx, .ref ny, .int now.2.2.1, .int now.2.2.2.1, .int now.2.2.2.2])), (nx, .inl (cI, 10, .inl now.1)), (ny, .inl (cI, 10, .inl now.2.1))])) A) (by decide) rfl rfl (Nat.le_of_ble_eq_true rfl) ?_
  intro p e s m below meth c A ls C hK hA hP hD hS hl
  have hx := C.1
  have hb := C.2.1
  have hown := C.2.2.2.1
  have hts := C.2.2.2.2.1
  have _huse := hts
  have hl : lv_has ls 2 [(0, .ref h0), (1, .int p0)] := hl
  refine lv_iload_n hx hb dX2_isSample_0 rfl (lv_at hl 1 rfl) ?_
  refine lv_if_lt (tgt := 25) hx hb dX2_isSample_1 (by decide) (fun c_1 => ?_) (fun c_1 => ?_)
  · refine lv_iconst (v := 0) hx hb dX2_isSample_25 (by decide) ?_
    exact ret_z C (Or.inl rfl) () (if_pos c_1) hP hD hS dX2_isSample_26
  · refine lv_iload_n hx hb dX2_isSample_4 rfl (lv_at hl 1 rfl) ?_
    refine lv_aload_n hx hb dX2_isSample_5 rfl (lv_at hl 0 rfl) ?_
    refine va_get (D := D) (ci := 2) (v := .ref hn) (C := RX2) (T := TX2) (N := 6) hx hb hts iX2_isSample_X2 hown hK.1 hP 0 rfl rfl 0 (by decide) (hts (.fieldLink RX2 12 "CompassBias" "now" "LCompassBias$Samples;") (List.mem_of_getElem? (i := 1) rfl)) (fun _ h9 => h9) rfl dX2_isSample_6 ?_
    refine va_get (D := D) (ci := 1) (v := .int now.2.2.1) (C := RX1) (T := TX1) (N := 5) hx hb hts iX2_isSample_X1 hown hK.1 hP 1 rfl rfl 2 (by decide) (hts (.fieldLink RX2 40 "CompassBias$Samples" "many" "I") (List.mem_of_getElem? (i := 2) rfl)) (fun _ h9 => h9) rfl dX2_isSample_9 ?_
    refine lv_icmp_ge (tgt := 25) hx hb dX2_isSample_12 (by decide) (fun c_12 => ?_) (fun c_12 => ?_)
    · refine lv_iconst (v := 0) hx hb dX2_isSample_25 (by decide) ?_
      exact ret_z C (Or.inl rfl) () ((if_neg c_1).trans ((if_pos c_12))) hP hD hS dX2_isSample_26
    · refine lv_iload_n hx hb dX2_isSample_15 rfl (lv_at hl 1 rfl) ?_
      refine lv_bipush (v := 10) hx hb dX2_isSample_16 (by decide) ?_
      refine lv_icmp_ge (tgt := 25) hx hb dX2_isSample_18 (by decide) (fun c_18 => ?_) (fun c_18 => ?_)
      · refine lv_iconst (v := 0) hx hb dX2_isSample_25 (by decide) ?_
        exact ret_z C (Or.inl rfl) () ((if_neg c_1).trans ((if_neg c_12).trans ((if_pos c_18)))) hP hD hS dX2_isSample_26
      · refine lv_iconst (v := 1) hx hb dX2_isSample_21 (by decide) ?_
        refine lv_goto (tgt := 26) hx hb dX2_isSample_22 (by decide) ?_
        exact ret_z C (Or.inr rfl) () ((if_neg c_1).trans ((if_neg c_12).trans ((if_neg c_18)))) hP hD hS dX2_isSample_26
def F_X2_add (now : Sm) (p0 : Int32) (p1 : Int32) : Int32 × Sm := if (F_X2_isPlace p0 p1) = 0 then (((-2), now)) else (if now.2.2.1 < 0 then (((-4), now)) else (if now.2.2.1 < 10 then ((now.2.2.1, (upd now.1 now.2.2.1.toNatClampNeg p0, upd now.2.1 now.2.2.1.toNatClampNeg p1, now.2.2.1 + 1, now.2.2.2.1 ||| (1 <<< (now.2.2.1 &&& 31)), now.2.2.2.2))) else (((-4), now))))
theorem iX2_add_X1 : ∀ w ∈ u_ws RX1 TX1 5, w ∈ wsX2_add := fun _ h => List.mem_cons_of_mem _ (List.mem_append_right _ (h))
theorem iX2_add_X2 : ∀ w ∈ u_ws RX2 TX2 6, w ∈ wsX2_add := fun _ h => List.mem_cons_of_mem _ (List.mem_append_left _ (List.mem_append_right _ (h)))
set_option maxHeartbeats 4000000 in
set_option maxRecDepth 100000 in
theorem c_X2_add (l : Launch) (D : va_G) (cI cZ : ClassId) (h0 hn hi0 hi1 hR hT nx ny : Nat) (now : Sm) (kp : Int32) (p0 : Int32) (p1 : Int32) : CTi l yX2_add wsX2_add ({ frames := 2, cells := 0, slots := 0, locals := 43 } : Room) D cI cZ [.ref h0, .int p0, .int p1] [(h0, .inr (2, [.ref hn, .ref hi0, .ref hi1, .int kp, .ref hR, .ref hT])), (hn, .inr (1, [.ref nx, .ref ny, .int now.2.2.1, .int now.2.2.2.1, .int now.2.2.2.2])), (nx, .inl (cI, 10, .inl now.1)), (ny, .inl (cI, 10, .inl now.2.1))] (S := Sm) (fun z9 u9 => F_X2_add now p0 p1 = (z9, u9)) (fun u => [(h0, .inr (2, [.ref hn, .ref hi0, .ref hi1, .int kp, .ref hR, .ref hT])), (hn, .inr (1, [.ref nx, .ref ny, .int u.2.2.1, .int u.2.2.2.1, .int u.2.2.2.2])), (nx, .inl (cI, 10, .inl u.1)), (ny, .inl (cI, 10, .inl u.2.1))]) := by
  refine enterM (cc := cX2_add) (maxL := 4) (ret := (some .int)) (own := RX2) (Qc := fun A => va_Qi (S := Sm) (fun z9 u9 => F_X2_add now p0 p1 = (z9, u9)) (PoB (S := Sm) D A (fun u => [(h0, .inr (2, [.ref hn, .ref hi0, .ref hi1, .int kp, .ref hR, .ref hT])), (hn, .inr (1, [.ref nx, .ref ny, .int u.2.2.1, .int u.2.2.2.1, .int u.2.2.2.2])), (nx, .inl (cI, 10, .inl u.1)), (ny, .inl (cI, 10, .inl u.2.1))])) A) (by decide) rfl rfl (Nat.le_of_ble_eq_true rfl) ?_
  intro p e s m below meth c A ls C hK hA hP hD hS hl
  have hx := C.1
  have hb := C.2.1
  have hown := C.2.2.2.1
  have hts := C.2.2.2.2.1
  have _huse := hts
  have hl : lv_has ls 4 [(0, .ref h0), (1, .int p0), (2, .int p1)] := hl
  refine lv_iload_n hx hb dX2_add_0 rfl (lv_at hl 1 rfl) ?_
  refine lv_iload_n hx hb dX2_add_1 rfl (lv_at hl 2 rfl) ?_
  refine aft_i (wr := [(h0, .inr (2, [.ref hn, .ref hi0, .ref hi1, .int kp, .ref hR, .ref hT])), (hn, .inr (1, [.ref nx, .ref ny, .int now.2.2.1, .int now.2.2.2.1, .int now.2.2.2.2])), (nx, .inl (cI, 10, .inl now.1)), (ny, .inl (cI, 10, .inl now.2.1))]) (run_S (As := [.int p0, .int p1]) (rest := []) C (c_X2_isPlace l D cI cZ p0 p1) (va_cwS 2 hts gX2_add_X2_isPlace rfl rfl rfl (by decide +kernel) ⟨Nat.le_of_ble_eq_true rfl, Nat.le_of_ble_eq_true rfl⟩) hK (hP.sub (ws' := []) [] rfl) (hD.sub (ws' := []) [] (by decide) rfl) rfl hl.1 rfl (Nat.le_of_ble_eq_true rfl) dX2_add_2 (Nat.zero_le _) (Nat.zero_le _)) hP hD hS hA [] [0, 1, 2, 3] rfl rfl (by decide) (by decide) (fun z9 u9 H locs hw hP hD hS => ?_)
  subst hw
  have hP : va_P D classes [(h0, .inr (2, [.ref hn, .ref hi0, .ref hi1, .int kp, .ref hR, .ref hT])), (hn, .inr (1, [.ref nx, .ref ny, .int now.2.2.1, .int now.2.2.2.1, .int now.2.2.2.2])), (nx, .inl (cI, 10, .inl now.1)), (ny, .inl (cI, 10, .inl now.2.1))] H := hP
  have hD : va_D A [(h0, .inr (2, [.ref hn, .ref hi0, .ref hi1, .int kp, .ref hR, .ref hT])), (hn, .inr (1, [.ref nx, .ref ny, .int now.2.2.1, .int now.2.2.2.1, .int now.2.2.2.2])), (nx, .inl (cI, 10, .inl now.1)), (ny, .inl (cI, 10, .inl now.2.1))] := hD
  refine lv_if_ne (tgt := 11) hx hb dX2_add_5 (by decide) (fun c_5 => ?_) (fun c_5 => ?_)
  · refine lv_aload_n hx hb dX2_add_11 rfl (lv_at hl 0 rfl) ?_
    refine va_get (D := D) (ci := 2) (v := .ref hn) (C := RX2) (T := TX2) (N := 6) hx hb hts iX2_add_X2 hown hK.1 hP 0 rfl rfl 0 (by decide) (hts (.fieldLink RX2 12 "CompassBias" "now" "LCompassBias$Samples;") (List.mem_of_getElem? (i := 1) rfl)) (fun _ h9 => h9) rfl dX2_add_12 ?_
    refine va_get (D := D) (ci := 1) (v := .int now.2.2.1) (C := RX1) (T := TX1) (N := 5) hx hb hts iX2_add_X1 hown hK.1 hP 1 rfl rfl 2 (by decide) (hts (.fieldLink RX2 40 "CompassBias$Samples" "many" "I") (List.mem_of_getElem? (i := 2) rfl)) (fun _ h9 => h9) rfl dX2_add_15 ?_
    refine lv_istore_n (lv' := [(3, .int now.2.2.1), (0, .ref h0), (1, .int p0), (2, .int p1)]) hx hb dX2_add_18 rfl hl (by decide) rfl (fun ls hl => ?_)
    refine lv_iload_n hx hb dX2_add_19 rfl (lv_at hl 0 rfl) ?_
    refine lv_if_lt (tgt := 29) hx hb dX2_add_20 (by decide) (fun c_20 => ?_) (fun c_20 => ?_)
    · refine lv_bipush (v := (-4)) hx hb dX2_add_29 (by decide) ?_
      exact ret_i C now ((if_neg c_5).trans ((if_pos c_20))) hP hD hS dX2_add_31
    · refine lv_iload_n hx hb dX2_add_23 rfl (lv_at hl 0 rfl) ?_
      refine lv_bipush (v := 10) hx hb dX2_add_24 (by decide) ?_
      refine lv_icmp_lt (tgt := 32) hx hb dX2_add_26 (by decide) (fun c_26 => ?_) (fun c_26 => ?_)
      · refine lv_aload_n hx hb dX2_add_32 rfl (lv_at hl 1 rfl) ?_
        refine va_get (D := D) (ci := 2) (v := .ref hn) (C := RX2) (T := TX2) (N := 6) hx hb hts iX2_add_X2 hown hK.1 hP 0 rfl rfl 0 (by decide) (hts (.fieldLink RX2 12 "CompassBias" "now" "LCompassBias$Samples;") (List.mem_of_getElem? (i := 1) rfl)) (fun _ h9 => h9) rfl dX2_add_33 ?_
        refine va_get (D := D) (ci := 1) (v := .ref nx) (C := RX1) (T := TX1) (N := 5) hx hb hts iX2_add_X1 hown hK.1 hP 1 rfl rfl 0 (by decide) (hts (.fieldLink RX2 43 "CompassBias$Samples" "xs" "[I") (List.mem_of_getElem? (i := 3) rfl)) (fun _ h9 => h9) rfl dX2_add_36 ?_
        refine lv_iload_n hx hb dX2_add_39 rfl (lv_at hl 0 rfl) ?_
        refine lv_iload_n hx hb dX2_add_40 rfl (lv_at hl 2 rfl) ?_
        refine va_iast hx hb hK.1 hP hD hS 2 0 rfl rfl (vp_of2 c_20 c_26) dX2_add_41 (fun H locs hP hD hS => ?_)
        have hP : va_P D classes [(h0, .inr (2, [.ref hn, .ref hi0, .ref hi1, .int kp, .ref hR, .ref hT])), (hn, .inr (1, [.ref nx, .ref ny, .int now.2.2.1, .int now.2.2.2.1, .int now.2.2.2.2])), (nx, .inl (cI, 10, .inl (upd now.1 now.2.2.1.toNatClampNeg p0))), (ny, .inl (cI, 10, .inl now.2.1))] H := hP
        have hD : va_D A [(h0, .inr (2, [.ref hn, .ref hi0, .ref hi1, .int kp, .ref hR, .ref hT])), (hn, .inr (1, [.ref nx, .ref ny, .int now.2.2.1, .int now.2.2.2.1, .int now.2.2.2.2])), (nx, .inl (cI, 10, .inl (upd now.1 now.2.2.1.toNatClampNeg p0))), (ny, .inl (cI, 10, .inl now.2.1))] := hD
        refine lv_aload_n hx hb dX2_add_42 rfl (lv_at hl 1 rfl) ?_
        refine va_get (D := D) (ci := 2) (v := .ref hn) (C := RX2) (T := TX2) (N := 6) hx hb hts iX2_add_X2 hown hK.1 hP 0 rfl rfl 0 (by decide) (hts (.fieldLink RX2 12 "CompassBias" "now" "LCompassBias$Samples;") (List.mem_of_getElem? (i := 1) rfl)) (fun _ h9 => h9) rfl dX2_add_43 ?_
        refine va_get (D := D) (ci := 1) (v := .ref ny) (C := RX1) (T := TX1) (N := 5) hx hb hts iX2_add_X1 hown hK.1 hP 1 rfl rfl 1 (by decide) (hts (.fieldLink RX2 47 "CompassBias$Samples" "ys" "[I") (List.mem_of_getElem? (i := 4) rfl)) (fun _ h9 => h9) rfl dX2_add_46 ?_
        refine lv_iload_n hx hb dX2_add_49 rfl (lv_at hl 0 rfl) ?_
        refine lv_iload_n hx hb dX2_add_50 rfl (lv_at hl 3 rfl) ?_
        refine va_iast hx hb hK.1 hP hD hS 3 0 rfl rfl (vp_of2 c_20 c_26) dX2_add_51 (fun H locs hP hD hS => ?_)
        have hP : va_P D classes [(h0, .inr (2, [.ref hn, .ref hi0, .ref hi1, .int kp, .ref hR, .ref hT])), (hn, .inr (1, [.ref nx, .ref ny, .int now.2.2.1, .int now.2.2.2.1, .int now.2.2.2.2])), (nx, .inl (cI, 10, .inl (upd now.1 now.2.2.1.toNatClampNeg p0))), (ny, .inl (cI, 10, .inl (upd now.2.1 now.2.2.1.toNatClampNeg p1)))] H := hP
        have hD : va_D A [(h0, .inr (2, [.ref hn, .ref hi0, .ref hi1, .int kp, .ref hR, .ref hT])), (hn, .inr (1, [.ref nx, .ref ny, .int now.2.2.1, .int now.2.2.2.1, .int now.2.2.2.2])), (nx, .inl (cI, 10, .inl (upd now.1 now.2.2.1.toNatClampNeg p0))), (ny, .inl (cI, 10, .inl (upd now.2.1 now.2.2.1.toNatClampNeg p1)))] := hD
        refine lv_aload_n hx hb dX2_add_52 rfl (lv_at hl 1 rfl) ?_
        refine va_get (D := D) (ci := 2) (v := .ref hn) (C := RX2) (T := TX2) (N := 6) hx hb hts iX2_add_X2 hown hK.1 hP 0 rfl rfl 0 (by decide) (hts (.fieldLink RX2 12 "CompassBias" "now" "LCompassBias$Samples;") (List.mem_of_getElem? (i := 1) rfl)) (fun _ h9 => h9) rfl dX2_add_53 ?_
        refine lv_dup hx hb dX2_add_56 rfl ?_
        refine va_get (D := D) (ci := 1) (v := .int now.2.2.2.1) (C := RX1) (T := TX1) (N := 5) hx hb hts iX2_add_X1 hown hK.1 hP 1 rfl rfl 3 (by decide) (hts (.fieldLink RX2 50 "CompassBias$Samples" "taken" "I") (List.mem_of_getElem? (i := 5) rfl)) (fun _ h9 => h9) rfl dX2_add_57 ?_
        refine lv_iconst (v := 1) hx hb dX2_add_60 (by decide) ?_
        refine lv_iload_n hx hb dX2_add_61 rfl (lv_at hl 0 rfl) ?_
        refine lv_ishl hx hb dX2_add_62 ?_
        refine lv_ior hx hb dX2_add_63 ?_
        refine va_put (D := D) (ci := 1) (v := .int (now.2.2.2.1 ||| (1 <<< (now.2.2.1 &&& 31)))) (ty := .int) (C := RX1) (T := TX1) (N := 5) hx hb hts iX2_add_X1 tyX1 tyX1_ok nmX1 hown hK.1 hP hD hS 1 rfl rfl 3 (by decide) (hts (.fieldLink RX2 50 "CompassBias$Samples" "taken" "I") (List.mem_of_getElem? (i := 5) rfl)) (fun _ h9 => h9) rfl (by decide +kernel) rfl rfl (Nat.le_of_ble_eq_true rfl) dX2_add_64 (fun H locs hP hD hS => ?_)
        have hP : va_P D classes [(h0, .inr (2, [.ref hn, .ref hi0, .ref hi1, .int kp, .ref hR, .ref hT])), (hn, .inr (1, [.ref nx, .ref ny, .int now.2.2.1, .int (now.2.2.2.1 ||| (1 <<< (now.2.2.1 &&& 31))), .int now.2.2.2.2])), (nx, .inl (cI, 10, .inl (upd now.1 now.2.2.1.toNatClampNeg p0))), (ny, .inl (cI, 10, .inl (upd now.2.1 now.2.2.1.toNatClampNeg p1)))] H := hP
        have hD : va_D A [(h0, .inr (2, [.ref hn, .ref hi0, .ref hi1, .int kp, .ref hR, .ref hT])), (hn, .inr (1, [.ref nx, .ref ny, .int now.2.2.1, .int (now.2.2.2.1 ||| (1 <<< (now.2.2.1 &&& 31))), .int now.2.2.2.2])), (nx, .inl (cI, 10, .inl (upd now.1 now.2.2.1.toNatClampNeg p0))), (ny, .inl (cI, 10, .inl (upd now.2.1 now.2.2.1.toNatClampNeg p1)))] := hD
        refine lv_aload_n hx hb dX2_add_67 rfl (lv_at hl 1 rfl) ?_
        refine va_get (D := D) (ci := 2) (v := .ref hn) (C := RX2) (T := TX2) (N := 6) hx hb hts iX2_add_X2 hown hK.1 hP 0 rfl rfl 0 (by decide) (hts (.fieldLink RX2 12 "CompassBias" "now" "LCompassBias$Samples;") (List.mem_of_getElem? (i := 1) rfl)) (fun _ h9 => h9) rfl dX2_add_68 ?_
        refine lv_iload_n hx hb dX2_add_71 rfl (lv_at hl 0 rfl) ?_
        refine lv_iconst (v := 1) hx hb dX2_add_72 (by decide) ?_
        refine lv_iadd hx hb dX2_add_73 ?_
        refine va_put (D := D) (ci := 1) (v := .int (now.2.2.1 + 1)) (ty := .int) (C := RX1) (T := TX1) (N := 5) hx hb hts iX2_add_X1 tyX1 tyX1_ok nmX1 hown hK.1 hP hD hS 1 rfl rfl 2 (by decide) (hts (.fieldLink RX2 40 "CompassBias$Samples" "many" "I") (List.mem_of_getElem? (i := 2) rfl)) (fun _ h9 => h9) rfl (by decide +kernel) rfl rfl (Nat.le_of_ble_eq_true rfl) dX2_add_74 (fun H locs hP hD hS => ?_)
        have hP : va_P D classes [(h0, .inr (2, [.ref hn, .ref hi0, .ref hi1, .int kp, .ref hR, .ref hT])), (hn, .inr (1, [.ref nx, .ref ny, .int (now.2.2.1 + 1), .int (now.2.2.2.1 ||| (1 <<< (now.2.2.1 &&& 31))), .int now.2.2.2.2])), (nx, .inl (cI, 10, .inl (upd now.1 now.2.2.1.toNatClampNeg p0))), (ny, .inl (cI, 10, .inl (upd now.2.1 now.2.2.1.toNatClampNeg p1)))] H := hP
        have hD : va_D A [(h0, .inr (2, [.ref hn, .ref hi0, .ref hi1, .int kp, .ref hR, .ref hT])), (hn, .inr (1, [.ref nx, .ref ny, .int (now.2.2.1 + 1), .int (now.2.2.2.1 ||| (1 <<< (now.2.2.1 &&& 31))), .int now.2.2.2.2])), (nx, .inl (cI, 10, .inl (upd now.1 now.2.2.1.toNatClampNeg p0))), (ny, .inl (cI, 10, .inl (upd now.2.1 now.2.2.1.toNatClampNeg p1)))] := hD
        refine lv_iload_n hx hb dX2_add_77 rfl (lv_at hl 0 rfl) ?_
        exact ret_i C (upd now.1 now.2.2.1.toNatClampNeg p0, upd now.2.1 now.2.2.1.toNatClampNeg p1, now.2.2.1 + 1, now.2.2.2.1 ||| (1 <<< (now.2.2.1 &&& 31)), now.2.2.2.2) ((if_neg c_5).trans ((if_neg c_20).trans ((if_pos c_26)))) hP hD hS dX2_add_78
      · refine lv_bipush (v := (-4)) hx hb dX2_add_29 (by decide) ?_
        exact ret_i C now ((if_neg c_5).trans ((if_neg c_20).trans ((if_neg c_26)))) hP hD hS dX2_add_31
  · refine lv_bipush (v := (-2)) hx hb dX2_add_8 (by decide) ?_
    exact ret_i C now (if_pos c_5) hP hD hS dX2_add_10
def F_X2_clear (now : Sm) : Int32 × Sm := (now.2.2.1, (now.1, now.2.1, 0, 0, now.2.2.2.2))
theorem iX2_clear_X1 : ∀ w ∈ u_ws RX1 TX1 5, w ∈ wsX2_clear := fun _ h => List.mem_cons_of_mem _ (List.mem_append_right _ (h))
theorem iX2_clear_X2 : ∀ w ∈ u_ws RX2 TX2 6, w ∈ wsX2_clear := fun _ h => List.mem_cons_of_mem _ (List.mem_append_left _ (List.mem_append_right _ (h)))
set_option maxHeartbeats 4000000 in
set_option maxRecDepth 100000 in
theorem c_X2_clear (l : Launch) (D : va_G) (cI cZ : ClassId) (h0 hn hi0 hi1 hR hT nx ny : Nat) (now : Sm) (kp : Int32) : CTi l yX2_clear wsX2_clear ({ frames := 0, cells := 0, slots := 0, locals := 0 } : Room) D cI cZ [.ref h0] [(h0, .inr (2, [.ref hn, .ref hi0, .ref hi1, .int kp, .ref hR, .ref hT])), (hn, .inr (1, [.ref nx, .ref ny, .int now.2.2.1, .int now.2.2.2.1, .int now.2.2.2.2])), (nx, .inl (cI, 10, .inl now.1)), (ny, .inl (cI, 10, .inl now.2.1))] (S := Sm) (fun z9 u9 => F_X2_clear now = (z9, u9)) (fun u => [(h0, .inr (2, [.ref hn, .ref hi0, .ref hi1, .int kp, .ref hR, .ref hT])), (hn, .inr (1, [.ref nx, .ref ny, .int u.2.2.1, .int u.2.2.2.1, .int u.2.2.2.2])), (nx, .inl (cI, 10, .inl u.1)), (ny, .inl (cI, 10, .inl u.2.1))]) := by
  refine enterM (cc := cX2_clear) (maxL := 2) (ret := (some .int)) (own := RX2) (Qc := fun A => va_Qi (S := Sm) (fun z9 u9 => F_X2_clear now = (z9, u9)) (PoB (S := Sm) D A (fun u => [(h0, .inr (2, [.ref hn, .ref hi0, .ref hi1, .int kp, .ref hR, .ref hT])), (hn, .inr (1, [.ref nx, .ref ny, .int u.2.2.1, .int u.2.2.2.1, .int u.2.2.2.2])), (nx, .inl (cI, 10, .inl u.1)), (ny, .inl (cI, 10, .inl u.2.1))])) A) (by decide) rfl rfl (Nat.le_of_ble_eq_true rfl) ?_
  intro p e s m below meth c A ls C hK hA hP hD hS hl
  have hx := C.1
  have hb := C.2.1
  have hown := C.2.2.2.1
  have hts := C.2.2.2.2.1
  have _huse := hts
  have hl : lv_has ls 2 [(0, .ref h0)] := hl
  refine lv_aload_n hx hb dX2_clear_0 rfl (lv_at hl 0 rfl) ?_
  refine va_get (D := D) (ci := 2) (v := .ref hn) (C := RX2) (T := TX2) (N := 6) hx hb hts iX2_clear_X2 hown hK.1 hP 0 rfl rfl 0 (by decide) (hts (.fieldLink RX2 12 "CompassBias" "now" "LCompassBias$Samples;") (List.mem_of_getElem? (i := 1) rfl)) (fun _ h9 => h9) rfl dX2_clear_1 ?_
  refine va_get (D := D) (ci := 1) (v := .int now.2.2.1) (C := RX1) (T := TX1) (N := 5) hx hb hts iX2_clear_X1 hown hK.1 hP 1 rfl rfl 2 (by decide) (hts (.fieldLink RX2 40 "CompassBias$Samples" "many" "I") (List.mem_of_getElem? (i := 2) rfl)) (fun _ h9 => h9) rfl dX2_clear_4 ?_
  refine lv_istore_n (lv' := [(1, .int now.2.2.1), (0, .ref h0)]) hx hb dX2_clear_7 rfl hl (by decide) rfl (fun ls hl => ?_)
  refine lv_aload_n hx hb dX2_clear_8 rfl (lv_at hl 1 rfl) ?_
  refine va_get (D := D) (ci := 2) (v := .ref hn) (C := RX2) (T := TX2) (N := 6) hx hb hts iX2_clear_X2 hown hK.1 hP 0 rfl rfl 0 (by decide) (hts (.fieldLink RX2 12 "CompassBias" "now" "LCompassBias$Samples;") (List.mem_of_getElem? (i := 1) rfl)) (fun _ h9 => h9) rfl dX2_clear_9 ?_
  refine lv_iconst (v := 0) hx hb dX2_clear_12 (by decide) ?_
  refine va_put (D := D) (ci := 1) (v := .int 0) (ty := .int) (C := RX1) (T := TX1) (N := 5) hx hb hts iX2_clear_X1 tyX1 tyX1_ok nmX1 hown hK.1 hP hD hS 1 rfl rfl 2 (by decide) (hts (.fieldLink RX2 40 "CompassBias$Samples" "many" "I") (List.mem_of_getElem? (i := 2) rfl)) (fun _ h9 => h9) rfl (by decide +kernel) rfl rfl (Nat.le_of_ble_eq_true rfl) dX2_clear_13 (fun H locs hP hD hS => ?_)
  have hP : va_P D classes [(h0, .inr (2, [.ref hn, .ref hi0, .ref hi1, .int kp, .ref hR, .ref hT])), (hn, .inr (1, [.ref nx, .ref ny, .int 0, .int now.2.2.2.1, .int now.2.2.2.2])), (nx, .inl (cI, 10, .inl now.1)), (ny, .inl (cI, 10, .inl now.2.1))] H := hP
  have hD : va_D A [(h0, .inr (2, [.ref hn, .ref hi0, .ref hi1, .int kp, .ref hR, .ref hT])), (hn, .inr (1, [.ref nx, .ref ny, .int 0, .int now.2.2.2.1, .int now.2.2.2.2])), (nx, .inl (cI, 10, .inl now.1)), (ny, .inl (cI, 10, .inl now.2.1))] := hD
  refine lv_aload_n hx hb dX2_clear_16 rfl (lv_at hl 1 rfl) ?_
  refine va_get (D := D) (ci := 2) (v := .ref hn) (C := RX2) (T := TX2) (N := 6) hx hb hts iX2_clear_X2 hown hK.1 hP 0 rfl rfl 0 (by decide) (hts (.fieldLink RX2 12 "CompassBias" "now" "LCompassBias$Samples;") (List.mem_of_getElem? (i := 1) rfl)) (fun _ h9 => h9) rfl dX2_clear_17 ?_
  refine lv_iconst (v := 0) hx hb dX2_clear_20 (by decide) ?_
  refine va_put (D := D) (ci := 1) (v := .int 0) (ty := .int) (C := RX1) (T := TX1) (N := 5) hx hb hts iX2_clear_X1 tyX1 tyX1_ok nmX1 hown hK.1 hP hD hS 1 rfl rfl 3 (by decide) (hts (.fieldLink RX2 50 "CompassBias$Samples" "taken" "I") (List.mem_of_getElem? (i := 3) rfl)) (fun _ h9 => h9) rfl (by decide +kernel) rfl rfl (Nat.le_of_ble_eq_true rfl) dX2_clear_21 (fun H locs hP hD hS => ?_)
  have hP : va_P D classes [(h0, .inr (2, [.ref hn, .ref hi0, .ref hi1, .int kp, .ref hR, .ref hT])), (hn, .inr (1, [.ref nx, .ref ny, .int 0, .int 0, .int now.2.2.2.2])), (nx, .inl (cI, 10, .inl now.1)), (ny, .inl (cI, 10, .inl now.2.1))] H := hP
  have hD : va_D A [(h0, .inr (2, [.ref hn, .ref hi0, .ref hi1, .int kp, .ref hR, .ref hT])), (hn, .inr (1, [.ref nx, .ref ny, .int 0, .int 0, .int now.2.2.2.2])), (nx, .inl (cI, 10, .inl now.1)), (ny, .inl (cI, 10, .inl now.2.1))] := hD
  refine lv_iload_n hx hb dX2_clear_24 rfl (lv_at hl 0 rfl) ?_
  exact ret_i C (now.1, now.2.1, 0, 0, now.2.2.2.2) rfl hP hD hS dX2_clear_25
def F_X2_take (now : Sm) (p0 : Int32) (p1 : Int32) : Int32 × Sm := if (F_X2_isSample now p0) = 0 then (((-1), now)) else (if (F_X2_isBetween p1 0 1) = 0 then (((-2), now)) else (if p1 = 1 then ((F_J6_bitCount_0f7a4 (now.2.2.2.1 ||| (1 <<< (p0 &&& 31))), (now.1, now.2.1, now.2.2.1, now.2.2.2.1 ||| (1 <<< (p0 &&& 31)), now.2.2.2.2))) else ((F_J6_bitCount_0f7a4 (now.2.2.2.1 &&& ((1 <<< (p0 &&& 31)) ^^^ (-1))), (now.1, now.2.1, now.2.2.1, now.2.2.2.1 &&& ((1 <<< (p0 &&& 31)) ^^^ (-1)), now.2.2.2.2)))))
theorem iX2_take_X1 : ∀ w ∈ u_ws RX1 TX1 5, w ∈ wsX2_take := fun _ h => List.mem_cons_of_mem _ (List.mem_append_right _ (h))
theorem iX2_take_X2 : ∀ w ∈ u_ws RX2 TX2 6, w ∈ wsX2_take := fun _ h => List.mem_cons_of_mem _ (List.mem_append_left _ (List.mem_append_right _ (h)))
set_option maxHeartbeats 4000000 in
set_option maxRecDepth 100000 in
theorem c_X2_take (l : Launch) (D : va_G) (cI cZ : ClassId) (h0 hn hi0 hi1 hR hT nx ny : Nat) (now : Sm) (kp : Int32) (p0 : Int32) (p1 : Int32) : CTi l yX2_take wsX2_take ({ frames := 1, cells := 0, slots := 0, locals := 22 } : Room) D cI cZ [.ref h0, .int p0, .int p1] [(h0, .inr (2, [.ref hn, .ref hi0, .ref hi1, .int kp, .ref hR, .ref hT])), (hn, .inr (1, [.ref nx, .ref ny, .int now.2.2.1, .int now.2.2.2.1, .int now.2.2.2.2])), (nx, .inl (cI, 10, .inl now.1)), (ny, .inl (cI, 10, .inl now.2.1))] (S := Sm) (fun z9 u9 => F_X2_take now p0 p1 = (z9, u9)) (fun u => [(h0, .inr (2, [.ref hn, .ref hi0, .ref hi1, .int kp, .ref hR, .ref hT])), (hn, .inr (1, [.ref nx, .ref ny, .int u.2.2.1, .int u.2.2.2.1, .int u.2.2.2.2])), (nx, .inl (cI, 10, .inl u.1)), (ny, .inl (cI, 10, .inl u.2.1))]) := by
  refine enterM (cc := cX2_take) (maxL := 3) (ret := (some .int)) (own := RX2) (Qc := fun A => va_Qi (S := Sm) (fun z9 u9 => F_X2_take now p0 p1 = (z9, u9)) (PoB (S := Sm) D A (fun u => [(h0, .inr (2, [.ref hn, .ref hi0, .ref hi1, .int kp, .ref hR, .ref hT])), (hn, .inr (1, [.ref nx, .ref ny, .int u.2.2.1, .int u.2.2.2.1, .int u.2.2.2.2])), (nx, .inl (cI, 10, .inl u.1)), (ny, .inl (cI, 10, .inl u.2.1))])) A) (by decide) rfl rfl (Nat.le_of_ble_eq_true rfl) ?_
  intro p e s m below meth c A ls C hK hA hP hD hS hl
  have hx := C.1
  have hb := C.2.1
  have hown := C.2.2.2.1
  have hts := C.2.2.2.2.1
  have _huse := hts
  have hl : lv_has ls 3 [(0, .ref h0), (1, .int p0), (2, .int p1)] := hl
  refine lv_aload_n hx hb dX2_take_0 rfl (lv_at hl 0 rfl) ?_
  refine lv_iload_n hx hb dX2_take_1 rfl (lv_at hl 1 rfl) ?_
  refine aft_i (wr := []) (run_V (As := [.int p0]) (rest := []) C (c_X2_isSample l D cI cZ h0 hn hi0 hi1 hR hT nx ny now kp p0) (cwV 1 hts gX2_take_X2_isSample rfl rfl rfl (by decide +kernel) ⟨Nat.le_of_ble_eq_true rfl, Nat.le_of_ble_eq_true rfl⟩) hK (hP.sub (ws' := [(h0, .inr (2, [.ref hn, .ref hi0, .ref hi1, .int kp, .ref hR, .ref hT])), (hn, .inr (1, [.ref nx, .ref ny, .int now.2.2.1, .int now.2.2.2.1, .int now.2.2.2.2])), (nx, .inl (cI, 10, .inl now.1)), (ny, .inl (cI, 10, .inl now.2.1))]) [0, 1, 2, 3] rfl) (hD.sub (ws' := [(h0, .inr (2, [.ref hn, .ref hi0, .ref hi1, .int kp, .ref hR, .ref hT])), (hn, .inr (1, [.ref nx, .ref ny, .int now.2.2.1, .int now.2.2.2.1, .int now.2.2.2.2])), (nx, .inl (cI, 10, .inl now.1)), (ny, .inl (cI, 10, .inl now.2.1))]) [0, 1, 2, 3] (by decide) rfl) 0 2 rfl rfl rfl rfl hl.1 rfl (Nat.le_of_ble_eq_true rfl) dX2_take_2 (Nat.zero_le _) (Nat.zero_le _)) hP hD hS hA [0, 1, 2, 3] [] rfl rfl (by decide) (by decide) (fun z9 u9 H locs hw hP hD hS => ?_)
  subst hw
  have hP : va_P D classes [(h0, .inr (2, [.ref hn, .ref hi0, .ref hi1, .int kp, .ref hR, .ref hT])), (hn, .inr (1, [.ref nx, .ref ny, .int now.2.2.1, .int now.2.2.2.1, .int now.2.2.2.2])), (nx, .inl (cI, 10, .inl now.1)), (ny, .inl (cI, 10, .inl now.2.1))] H := hP
  have hD : va_D A [(h0, .inr (2, [.ref hn, .ref hi0, .ref hi1, .int kp, .ref hR, .ref hT])), (hn, .inr (1, [.ref nx, .ref ny, .int now.2.2.1, .int now.2.2.2.1, .int now.2.2.2.2])), (nx, .inl (cI, 10, .inl now.1)), (ny, .inl (cI, 10, .inl now.2.1))] := hD
  refine lv_if_ne (tgt := 10) hx hb dX2_take_5 (by decide) (fun c_5 => ?_) (fun c_5 => ?_)
  · refine lv_iload_n hx hb dX2_take_10 rfl (lv_at hl 2 rfl) ?_
    refine lv_iconst (v := 0) hx hb dX2_take_11 (by decide) ?_
    refine lv_iconst (v := 1) hx hb dX2_take_12 (by decide) ?_
    refine aft_i (wr := [(h0, .inr (2, [.ref hn, .ref hi0, .ref hi1, .int kp, .ref hR, .ref hT])), (hn, .inr (1, [.ref nx, .ref ny, .int now.2.2.1, .int now.2.2.2.1, .int now.2.2.2.2])), (nx, .inl (cI, 10, .inl now.1)), (ny, .inl (cI, 10, .inl now.2.1))]) (run_S (As := [.int p1, .int 0, .int 1]) (rest := []) C (c_X2_isBetween l D cI cZ p1 0 1) (va_cwS 3 hts gX2_take_X2_isBetween rfl rfl rfl (by decide +kernel) ⟨Nat.le_of_ble_eq_true rfl, Nat.le_of_ble_eq_true rfl⟩) hK (hP.sub (ws' := []) [] rfl) (hD.sub (ws' := []) [] (by decide) rfl) rfl hl.1 rfl (Nat.le_of_ble_eq_true rfl) dX2_take_13 (Nat.zero_le _) (Nat.zero_le _)) hP hD hS hA [] [0, 1, 2, 3] rfl rfl (by decide) (by decide) (fun z9 u9 H locs hw hP hD hS => ?_)
    subst hw
    have hP : va_P D classes [(h0, .inr (2, [.ref hn, .ref hi0, .ref hi1, .int kp, .ref hR, .ref hT])), (hn, .inr (1, [.ref nx, .ref ny, .int now.2.2.1, .int now.2.2.2.1, .int now.2.2.2.2])), (nx, .inl (cI, 10, .inl now.1)), (ny, .inl (cI, 10, .inl now.2.1))] H := hP
    have hD : va_D A [(h0, .inr (2, [.ref hn, .ref hi0, .ref hi1, .int kp, .ref hR, .ref hT])), (hn, .inr (1, [.ref nx, .ref ny, .int now.2.2.1, .int now.2.2.2.1, .int now.2.2.2.2])), (nx, .inl (cI, 10, .inl now.1)), (ny, .inl (cI, 10, .inl now.2.1))] := hD
    refine lv_if_ne (tgt := 22) hx hb dX2_take_16 (by decide) (fun c_16 => ?_) (fun c_16 => ?_)
    · refine lv_iload_n hx hb dX2_take_22 rfl (lv_at hl 2 rfl) ?_
      refine lv_iconst (v := 1) hx hb dX2_take_23 (by decide) ?_
      refine lv_icmp_ne (tgt := 45) hx hb dX2_take_24 (by decide) (fun c_24 => ?_) (fun c_24 => ?_)
      · refine lv_aload_n hx hb dX2_take_45 rfl (lv_at hl 0 rfl) ?_
        refine va_get (D := D) (ci := 2) (v := .ref hn) (C := RX2) (T := TX2) (N := 6) hx hb hts iX2_take_X2 hown hK.1 hP 0 rfl rfl 0 (by decide) (hts (.fieldLink RX2 12 "CompassBias" "now" "LCompassBias$Samples;") (List.mem_of_getElem? (i := 1) rfl)) (fun _ h9 => h9) rfl dX2_take_46 ?_
        refine lv_dup hx hb dX2_take_49 rfl ?_
        refine va_get (D := D) (ci := 1) (v := .int now.2.2.2.1) (C := RX1) (T := TX1) (N := 5) hx hb hts iX2_take_X1 hown hK.1 hP 1 rfl rfl 3 (by decide) (hts (.fieldLink RX2 50 "CompassBias$Samples" "taken" "I") (List.mem_of_getElem? (i := 2) rfl)) (fun _ h9 => h9) rfl dX2_take_50 ?_
        refine lv_iconst (v := 1) hx hb dX2_take_53 (by decide) ?_
        refine lv_iload_n hx hb dX2_take_54 rfl (lv_at hl 1 rfl) ?_
        refine lv_ishl hx hb dX2_take_55 ?_
        refine lv_iconst (v := (-1)) hx hb dX2_take_56 (by decide) ?_
        refine lv_ixor hx hb dX2_take_57 ?_
        refine lv_iand hx hb dX2_take_58 ?_
        refine va_put (D := D) (ci := 1) (v := .int (now.2.2.2.1 &&& ((1 <<< (p0 &&& 31)) ^^^ (-1)))) (ty := .int) (C := RX1) (T := TX1) (N := 5) hx hb hts iX2_take_X1 tyX1 tyX1_ok nmX1 hown hK.1 hP hD hS 1 rfl rfl 3 (by decide) (hts (.fieldLink RX2 50 "CompassBias$Samples" "taken" "I") (List.mem_of_getElem? (i := 2) rfl)) (fun _ h9 => h9) rfl (by decide +kernel) rfl rfl (Nat.le_of_ble_eq_true rfl) dX2_take_59 (fun H locs hP hD hS => ?_)
        have hP : va_P D classes [(h0, .inr (2, [.ref hn, .ref hi0, .ref hi1, .int kp, .ref hR, .ref hT])), (hn, .inr (1, [.ref nx, .ref ny, .int now.2.2.1, .int (now.2.2.2.1 &&& ((1 <<< (p0 &&& 31)) ^^^ (-1))), .int now.2.2.2.2])), (nx, .inl (cI, 10, .inl now.1)), (ny, .inl (cI, 10, .inl now.2.1))] H := hP
        have hD : va_D A [(h0, .inr (2, [.ref hn, .ref hi0, .ref hi1, .int kp, .ref hR, .ref hT])), (hn, .inr (1, [.ref nx, .ref ny, .int now.2.2.1, .int (now.2.2.2.1 &&& ((1 <<< (p0 &&& 31)) ^^^ (-1))), .int now.2.2.2.2])), (nx, .inl (cI, 10, .inl now.1)), (ny, .inl (cI, 10, .inl now.2.1))] := hD
        refine lv_aload_n hx hb dX2_take_62 rfl (lv_at hl 0 rfl) ?_
        refine va_get (D := D) (ci := 2) (v := .ref hn) (C := RX2) (T := TX2) (N := 6) hx hb hts iX2_take_X2 hown hK.1 hP 0 rfl rfl 0 (by decide) (hts (.fieldLink RX2 12 "CompassBias" "now" "LCompassBias$Samples;") (List.mem_of_getElem? (i := 1) rfl)) (fun _ h9 => h9) rfl dX2_take_63 ?_
        refine va_get (D := D) (ci := 1) (v := .int (now.2.2.2.1 &&& ((1 <<< (p0 &&& 31)) ^^^ (-1)))) (C := RX1) (T := TX1) (N := 5) hx hb hts iX2_take_X1 hown hK.1 hP 1 rfl rfl 3 (by decide) (hts (.fieldLink RX2 50 "CompassBias$Samples" "taken" "I") (List.mem_of_getElem? (i := 2) rfl)) (fun _ h9 => h9) rfl dX2_take_66 ?_
        refine aft_i (wr := [(h0, .inr (2, [.ref hn, .ref hi0, .ref hi1, .int kp, .ref hR, .ref hT])), (hn, .inr (1, [.ref nx, .ref ny, .int now.2.2.1, .int (now.2.2.2.1 &&& ((1 <<< (p0 &&& 31)) ^^^ (-1))), .int now.2.2.2.2])), (nx, .inl (cI, 10, .inl now.1)), (ny, .inl (cI, 10, .inl now.2.1))]) (run_S (As := [.int (now.2.2.2.1 &&& ((1 <<< (p0 &&& 31)) ^^^ (-1)))]) (rest := []) C (c_J6_bitCount_0f7a4 l D cI cZ (now.2.2.2.1 &&& ((1 <<< (p0 &&& 31)) ^^^ (-1)))) (va_cwS 1 hts gX2_take_J6_bitCount_0f7a4 rfl rfl rfl (by decide +kernel) ⟨Nat.le_of_ble_eq_true rfl, Nat.le_of_ble_eq_true rfl⟩) hK (hP.sub (ws' := []) [] rfl) (hD.sub (ws' := []) [] (by decide) rfl) rfl hl.1 rfl (Nat.le_of_ble_eq_true rfl) dX2_take_69 (Nat.zero_le _) (Nat.zero_le _)) hP hD hS hA [] [0, 1, 2, 3] rfl rfl (by decide) (by decide) (fun z9 u9 H locs hw hP hD hS => ?_)
        subst hw
        have hP : va_P D classes [(h0, .inr (2, [.ref hn, .ref hi0, .ref hi1, .int kp, .ref hR, .ref hT])), (hn, .inr (1, [.ref nx, .ref ny, .int now.2.2.1, .int (now.2.2.2.1 &&& ((1 <<< (p0 &&& 31)) ^^^ (-1))), .int now.2.2.2.2])), (nx, .inl (cI, 10, .inl now.1)), (ny, .inl (cI, 10, .inl now.2.1))] H := hP
        have hD : va_D A [(h0, .inr (2, [.ref hn, .ref hi0, .ref hi1, .int kp, .ref hR, .ref hT])), (hn, .inr (1, [.ref nx, .ref ny, .int now.2.2.1, .int (now.2.2.2.1 &&& ((1 <<< (p0 &&& 31)) ^^^ (-1))), .int now.2.2.2.2])), (nx, .inl (cI, 10, .inl now.1)), (ny, .inl (cI, 10, .inl now.2.1))] := hD
        exact ret_i C (now.1, now.2.1, now.2.2.1, now.2.2.2.1 &&& ((1 <<< (p0 &&& 31)) ^^^ (-1)), now.2.2.2.2) ((if_neg c_5).trans ((if_neg c_16).trans ((if_neg c_24)))) hP hD hS dX2_take_72
      · refine lv_aload_n hx hb dX2_take_27 rfl (lv_at hl 0 rfl) ?_
        refine va_get (D := D) (ci := 2) (v := .ref hn) (C := RX2) (T := TX2) (N := 6) hx hb hts iX2_take_X2 hown hK.1 hP 0 rfl rfl 0 (by decide) (hts (.fieldLink RX2 12 "CompassBias" "now" "LCompassBias$Samples;") (List.mem_of_getElem? (i := 1) rfl)) (fun _ h9 => h9) rfl dX2_take_28 ?_
        refine lv_dup hx hb dX2_take_31 rfl ?_
        refine va_get (D := D) (ci := 1) (v := .int now.2.2.2.1) (C := RX1) (T := TX1) (N := 5) hx hb hts iX2_take_X1 hown hK.1 hP 1 rfl rfl 3 (by decide) (hts (.fieldLink RX2 50 "CompassBias$Samples" "taken" "I") (List.mem_of_getElem? (i := 2) rfl)) (fun _ h9 => h9) rfl dX2_take_32 ?_
        refine lv_iconst (v := 1) hx hb dX2_take_35 (by decide) ?_
        refine lv_iload_n hx hb dX2_take_36 rfl (lv_at hl 1 rfl) ?_
        refine lv_ishl hx hb dX2_take_37 ?_
        refine lv_ior hx hb dX2_take_38 ?_
        refine va_put (D := D) (ci := 1) (v := .int (now.2.2.2.1 ||| (1 <<< (p0 &&& 31)))) (ty := .int) (C := RX1) (T := TX1) (N := 5) hx hb hts iX2_take_X1 tyX1 tyX1_ok nmX1 hown hK.1 hP hD hS 1 rfl rfl 3 (by decide) (hts (.fieldLink RX2 50 "CompassBias$Samples" "taken" "I") (List.mem_of_getElem? (i := 2) rfl)) (fun _ h9 => h9) rfl (by decide +kernel) rfl rfl (Nat.le_of_ble_eq_true rfl) dX2_take_39 (fun H locs hP hD hS => ?_)
        have hP : va_P D classes [(h0, .inr (2, [.ref hn, .ref hi0, .ref hi1, .int kp, .ref hR, .ref hT])), (hn, .inr (1, [.ref nx, .ref ny, .int now.2.2.1, .int (now.2.2.2.1 ||| (1 <<< (p0 &&& 31))), .int now.2.2.2.2])), (nx, .inl (cI, 10, .inl now.1)), (ny, .inl (cI, 10, .inl now.2.1))] H := hP
        have hD : va_D A [(h0, .inr (2, [.ref hn, .ref hi0, .ref hi1, .int kp, .ref hR, .ref hT])), (hn, .inr (1, [.ref nx, .ref ny, .int now.2.2.1, .int (now.2.2.2.1 ||| (1 <<< (p0 &&& 31))), .int now.2.2.2.2])), (nx, .inl (cI, 10, .inl now.1)), (ny, .inl (cI, 10, .inl now.2.1))] := hD
        refine lv_goto (tgt := 62) hx hb dX2_take_42 (by decide) ?_
        refine lv_aload_n hx hb dX2_take_62 rfl (lv_at hl 0 rfl) ?_
        refine va_get (D := D) (ci := 2) (v := .ref hn) (C := RX2) (T := TX2) (N := 6) hx hb hts iX2_take_X2 hown hK.1 hP 0 rfl rfl 0 (by decide) (hts (.fieldLink RX2 12 "CompassBias" "now" "LCompassBias$Samples;") (List.mem_of_getElem? (i := 1) rfl)) (fun _ h9 => h9) rfl dX2_take_63 ?_
        refine va_get (D := D) (ci := 1) (v := .int (now.2.2.2.1 ||| (1 <<< (p0 &&& 31)))) (C := RX1) (T := TX1) (N := 5) hx hb hts iX2_take_X1 hown hK.1 hP 1 rfl rfl 3 (by decide) (hts (.fieldLink RX2 50 "CompassBias$Samples" "taken" "I") (List.mem_of_getElem? (i := 2) rfl)) (fun _ h9 => h9) rfl dX2_take_66 ?_
        refine aft_i (wr := [(h0, .inr (2, [.ref hn, .ref hi0, .ref hi1, .int kp, .ref hR, .ref hT])), (hn, .inr (1, [.ref nx, .ref ny, .int now.2.2.1, .int (now.2.2.2.1 ||| (1 <<< (p0 &&& 31))), .int now.2.2.2.2])), (nx, .inl (cI, 10, .inl now.1)), (ny, .inl (cI, 10, .inl now.2.1))]) (run_S (As := [.int (now.2.2.2.1 ||| (1 <<< (p0 &&& 31)))]) (rest := []) C (c_J6_bitCount_0f7a4 l D cI cZ (now.2.2.2.1 ||| (1 <<< (p0 &&& 31)))) (va_cwS 1 hts gX2_take_J6_bitCount_0f7a4 rfl rfl rfl (by decide +kernel) ⟨Nat.le_of_ble_eq_true rfl, Nat.le_of_ble_eq_true rfl⟩) hK (hP.sub (ws' := []) [] rfl) (hD.sub (ws' := []) [] (by decide) rfl) rfl hl.1 rfl (Nat.le_of_ble_eq_true rfl) dX2_take_69 (Nat.zero_le _) (Nat.zero_le _)) hP hD hS hA [] [0, 1, 2, 3] rfl rfl (by decide) (by decide) (fun z9 u9 H locs hw hP hD hS => ?_)
        subst hw
        have hP : va_P D classes [(h0, .inr (2, [.ref hn, .ref hi0, .ref hi1, .int kp, .ref hR, .ref hT])), (hn, .inr (1, [.ref nx, .ref ny, .int now.2.2.1, .int (now.2.2.2.1 ||| (1 <<< (p0 &&& 31))), .int now.2.2.2.2])), (nx, .inl (cI, 10, .inl now.1)), (ny, .inl (cI, 10, .inl now.2.1))] H := hP
        have hD : va_D A [(h0, .inr (2, [.ref hn, .ref hi0, .ref hi1, .int kp, .ref hR, .ref hT])), (hn, .inr (1, [.ref nx, .ref ny, .int now.2.2.1, .int (now.2.2.2.1 ||| (1 <<< (p0 &&& 31))), .int now.2.2.2.2])), (nx, .inl (cI, 10, .inl now.1)), (ny, .inl (cI, 10, .inl now.2.1))] := hD
        exact ret_i C (now.1, now.2.1, now.2.2.1, now.2.2.2.1 ||| (1 <<< (p0 &&& 31)), now.2.2.2.2) ((if_neg c_5).trans ((if_neg c_16).trans ((if_pos c_24)))) hP hD hS dX2_take_72
    · refine lv_bipush (v := (-2)) hx hb dX2_take_19 (by decide) ?_
      exact ret_i C now ((if_neg c_5).trans ((if_pos c_16))) hP hD hS dX2_take_21
  · refine lv_iconst (v := (-1)) hx hb dX2_take_8 (by decide) ?_
    exact ret_i C now (if_pos c_5) hP hD hS dX2_take_9
def F_X2_of (now : Sm) (p0 : Int32) (p1 : Int32) : Int32 := if (F_X2_isSample now p0) = 0 then ((-1)) else (if p1 = 0 then ((now.1 p0.toNatClampNeg) + 100) else (if p1 = 1 then ((now.2.1 p0.toNatClampNeg) + 100) else (if p1 = 2 then (if (F_X2_isIn now.2.2.2.1 p0) = 0 then (0) else (1)) else (if p1 = 3 then (F_X2_powerAt (now.1 p0.toNatClampNeg) (now.2.1 p0.toNatClampNeg)) else ((-2))))))
theorem samp_in {now : Sm} {p0 : Int32} (h : ¬ F_X2_isSample now p0 = 0) : vp_in p0 10 := by
  unfold F_X2_isSample at h
  by_cases h1 : p0 < 0
  · rw [if_pos h1] at h; exact absurd rfl h
  · rw [if_neg h1] at h
    by_cases h2 : now.2.2.1 ≤ p0
    · rw [if_pos h2] at h; exact absurd rfl h
    · rw [if_neg h2] at h
      by_cases h3 : (10 : Int32) ≤ p0
      · rw [if_pos h3] at h; exact absurd rfl h
      · exact vp_of3 h1 h3
theorem iX2_of_X1 : ∀ w ∈ u_ws RX1 TX1 5, w ∈ wsX2_of := fun _ h => List.mem_cons_of_mem _ (List.mem_append_right _ (h))
theorem iX2_of_X2 : ∀ w ∈ u_ws RX2 TX2 6, w ∈ wsX2_of := fun _ h => List.mem_cons_of_mem _ (List.mem_append_left _ (List.mem_append_right _ (h)))
set_option maxHeartbeats 4000000 in
set_option maxRecDepth 100000 in
theorem c_X2_of (l : Launch) (D : va_G) (cI cZ : ClassId) (h0 hn hi0 hi1 hR hT nx ny : Nat) (now : Sm) (kp : Int32) (p0 : Int32) (p1 : Int32) : CTi l yX2_of wsX2_of ({ frames := 1, cells := 0, slots := 0, locals := 21 } : Room) D cI cZ [.ref h0, .int p0, .int p1] [(h0, .inr (2, [.ref hn, .ref hi0, .ref hi1, .int kp, .ref hR, .ref hT])), (hn, .inr (1, [.ref nx, .ref ny, .int now.2.2.1, .int now.2.2.2.1, .int now.2.2.2.2])), (nx, .inl (cI, 10, .inl now.1)), (ny, .inl (cI, 10, .inl now.2.1))] (S := Unit) (fun z9 _ => F_X2_of now p0 p1 = z9) (fun _ => [(h0, .inr (2, [.ref hn, .ref hi0, .ref hi1, .int kp, .ref hR, .ref hT])), (hn, .inr (1, [.ref nx, .ref ny, .int now.2.2.1, .int now.2.2.2.1, .int now.2.2.2.2])), (nx, .inl (cI, 10, .inl now.1)), (ny, .inl (cI, 10, .inl now.2.1))]) := by
  refine enterM (cc := cX2_of) (maxL := 3) (ret := (some .int)) (own := RX2) (Qc := fun A => va_Qi (S := Unit) (fun z9 _ => F_X2_of now p0 p1 = z9) (PoB (S := Unit) D A (fun _ => [(h0, .inr (2, [.ref hn, .ref hi0, .ref hi1, .int kp, .ref hR, .ref hT])), (hn, .inr (1, [.ref nx, .ref ny, .int now.2.2.1, .int now.2.2.2.1, .int now.2.2.2.2])), (nx, .inl (cI, 10, .inl now.1)), (ny, .inl (cI, 10, .inl now.2.1))])) A) (by decide) rfl rfl (Nat.le_of_ble_eq_true rfl) ?_
  intro p e s m below meth c A ls C hK hA hP hD hS hl
  have hx := C.1
  have hb := C.2.1
  have hown := C.2.2.2.1
  have hts := C.2.2.2.2.1
  have _huse := hts
  have hl : lv_has ls 3 [(0, .ref h0), (1, .int p0), (2, .int p1)] := hl
  refine lv_aload_n hx hb dX2_of_0 rfl (lv_at hl 0 rfl) ?_
  refine lv_iload_n hx hb dX2_of_1 rfl (lv_at hl 1 rfl) ?_
  refine aft_i (wr := []) (run_V (As := [.int p0]) (rest := []) C (c_X2_isSample l D cI cZ h0 hn hi0 hi1 hR hT nx ny now kp p0) (cwV 1 hts gX2_of_X2_isSample rfl rfl rfl (by decide +kernel) ⟨Nat.le_of_ble_eq_true rfl, Nat.le_of_ble_eq_true rfl⟩) hK (hP.sub (ws' := [(h0, .inr (2, [.ref hn, .ref hi0, .ref hi1, .int kp, .ref hR, .ref hT])), (hn, .inr (1, [.ref nx, .ref ny, .int now.2.2.1, .int now.2.2.2.1, .int now.2.2.2.2])), (nx, .inl (cI, 10, .inl now.1)), (ny, .inl (cI, 10, .inl now.2.1))]) [0, 1, 2, 3] rfl) (hD.sub (ws' := [(h0, .inr (2, [.ref hn, .ref hi0, .ref hi1, .int kp, .ref hR, .ref hT])), (hn, .inr (1, [.ref nx, .ref ny, .int now.2.2.1, .int now.2.2.2.1, .int now.2.2.2.2])), (nx, .inl (cI, 10, .inl now.1)), (ny, .inl (cI, 10, .inl now.2.1))]) [0, 1, 2, 3] (by decide) rfl) 0 2 rfl rfl rfl rfl hl.1 rfl (Nat.le_of_ble_eq_true rfl) dX2_of_2 (Nat.zero_le _) (Nat.zero_le _)) hP hD hS hA [0, 1, 2, 3] [] rfl rfl (by decide) (by decide) (fun z9 u9 H locs hw hP hD hS => ?_)
  subst hw
  have hP : va_P D classes [(h0, .inr (2, [.ref hn, .ref hi0, .ref hi1, .int kp, .ref hR, .ref hT])), (hn, .inr (1, [.ref nx, .ref ny, .int now.2.2.1, .int now.2.2.2.1, .int now.2.2.2.2])), (nx, .inl (cI, 10, .inl now.1)), (ny, .inl (cI, 10, .inl now.2.1))] H := hP
  have hD : va_D A [(h0, .inr (2, [.ref hn, .ref hi0, .ref hi1, .int kp, .ref hR, .ref hT])), (hn, .inr (1, [.ref nx, .ref ny, .int now.2.2.1, .int now.2.2.2.1, .int now.2.2.2.2])), (nx, .inl (cI, 10, .inl now.1)), (ny, .inl (cI, 10, .inl now.2.1))] := hD
  refine lv_if_ne (tgt := 10) hx hb dX2_of_5 (by decide) (fun c_5 => ?_) (fun c_5 => ?_)
  · refine lv_iload_n hx hb dX2_of_10 rfl (lv_at hl 2 rfl) ?_
    by_cases c_11_0 : p1 = 0
    · refine lv_tableIn (off := 29) (tgt := 40) hx hb dX2_of_11 (by rw [c_11_0]; decide) (by rw [c_11_0]; decide) (by rw [c_11_0]; rfl) (by decide) ?_
      refine lv_aload_n hx hb dX2_of_40 rfl (lv_at hl 0 rfl) ?_
      refine va_get (D := D) (ci := 2) (v := .ref hn) (C := RX2) (T := TX2) (N := 6) hx hb hts iX2_of_X2 hown hK.1 hP 0 rfl rfl 0 (by decide) (hts (.fieldLink RX2 12 "CompassBias" "now" "LCompassBias$Samples;") (List.mem_of_getElem? (i := 1) rfl)) (fun _ h9 => h9) rfl dX2_of_41 ?_
      refine va_get (D := D) (ci := 1) (v := .ref nx) (C := RX1) (T := TX1) (N := 5) hx hb hts iX2_of_X1 hown hK.1 hP 1 rfl rfl 0 (by decide) (hts (.fieldLink RX2 43 "CompassBias$Samples" "xs" "[I") (List.mem_of_getElem? (i := 2) rfl)) (fun _ h9 => h9) rfl dX2_of_44 ?_
      refine lv_iload_n hx hb dX2_of_47 rfl (lv_at hl 1 rfl) ?_
      refine va_iald hx hb hK.1 hP 2 0 rfl rfl (samp_in c_5) dX2_of_48 ?_
      refine lv_bipush (v := 100) hx hb dX2_of_49 (by decide) ?_
      refine lv_iadd hx hb dX2_of_51 ?_
      exact ret_i C () ((if_neg c_5).trans ((if_pos c_11_0))) hP hD hS dX2_of_52
    · by_cases c_11_1 : p1 = 1
      · refine lv_tableIn (off := 42) (tgt := 53) hx hb dX2_of_11 (by rw [c_11_1]; decide) (by rw [c_11_1]; decide) (by rw [c_11_1]; rfl) (by decide) ?_
        refine lv_aload_n hx hb dX2_of_53 rfl (lv_at hl 0 rfl) ?_
        refine va_get (D := D) (ci := 2) (v := .ref hn) (C := RX2) (T := TX2) (N := 6) hx hb hts iX2_of_X2 hown hK.1 hP 0 rfl rfl 0 (by decide) (hts (.fieldLink RX2 12 "CompassBias" "now" "LCompassBias$Samples;") (List.mem_of_getElem? (i := 1) rfl)) (fun _ h9 => h9) rfl dX2_of_54 ?_
        refine va_get (D := D) (ci := 1) (v := .ref ny) (C := RX1) (T := TX1) (N := 5) hx hb hts iX2_of_X1 hown hK.1 hP 1 rfl rfl 1 (by decide) (hts (.fieldLink RX2 47 "CompassBias$Samples" "ys" "[I") (List.mem_of_getElem? (i := 3) rfl)) (fun _ h9 => h9) rfl dX2_of_57 ?_
        refine lv_iload_n hx hb dX2_of_60 rfl (lv_at hl 1 rfl) ?_
        refine va_iald hx hb hK.1 hP 3 0 rfl rfl (samp_in c_5) dX2_of_61 ?_
        refine lv_bipush (v := 100) hx hb dX2_of_62 (by decide) ?_
        refine lv_iadd hx hb dX2_of_64 ?_
        exact ret_i C () ((if_neg c_5).trans ((if_neg c_11_0).trans ((if_pos c_11_1)))) hP hD hS dX2_of_65
      · by_cases c_11_2 : p1 = 2
        · refine lv_tableIn (off := 55) (tgt := 66) hx hb dX2_of_11 (by rw [c_11_2]; decide) (by rw [c_11_2]; decide) (by rw [c_11_2]; rfl) (by decide) ?_
          refine lv_aload_n hx hb dX2_of_66 rfl (lv_at hl 0 rfl) ?_
          refine va_get (D := D) (ci := 2) (v := .ref hn) (C := RX2) (T := TX2) (N := 6) hx hb hts iX2_of_X2 hown hK.1 hP 0 rfl rfl 0 (by decide) (hts (.fieldLink RX2 12 "CompassBias" "now" "LCompassBias$Samples;") (List.mem_of_getElem? (i := 1) rfl)) (fun _ h9 => h9) rfl dX2_of_67 ?_
          refine va_get (D := D) (ci := 1) (v := .int now.2.2.2.1) (C := RX1) (T := TX1) (N := 5) hx hb hts iX2_of_X1 hown hK.1 hP 1 rfl rfl 3 (by decide) (hts (.fieldLink RX2 50 "CompassBias$Samples" "taken" "I") (List.mem_of_getElem? (i := 4) rfl)) (fun _ h9 => h9) rfl dX2_of_70 ?_
          refine lv_iload_n hx hb dX2_of_73 rfl (lv_at hl 1 rfl) ?_
          refine aft_i (wr := [(h0, .inr (2, [.ref hn, .ref hi0, .ref hi1, .int kp, .ref hR, .ref hT])), (hn, .inr (1, [.ref nx, .ref ny, .int now.2.2.1, .int now.2.2.2.1, .int now.2.2.2.2])), (nx, .inl (cI, 10, .inl now.1)), (ny, .inl (cI, 10, .inl now.2.1))]) (run_S (As := [.int now.2.2.2.1, .int p0]) (rest := []) C (c_X2_isIn l D cI cZ now.2.2.2.1 p0) (va_cwS 2 hts gX2_of_X2_isIn rfl rfl rfl (by decide +kernel) ⟨Nat.le_of_ble_eq_true rfl, Nat.le_of_ble_eq_true rfl⟩) hK (hP.sub (ws' := []) [] rfl) (hD.sub (ws' := []) [] (by decide) rfl) rfl hl.1 rfl (Nat.le_of_ble_eq_true rfl) dX2_of_74 (Nat.zero_le _) (Nat.zero_le _)) hP hD hS hA [] [0, 1, 2, 3] rfl rfl (by decide) (by decide) (fun z9 u9 H locs hw hP hD hS => ?_)
          subst hw
          have hP : va_P D classes [(h0, .inr (2, [.ref hn, .ref hi0, .ref hi1, .int kp, .ref hR, .ref hT])), (hn, .inr (1, [.ref nx, .ref ny, .int now.2.2.1, .int now.2.2.2.1, .int now.2.2.2.2])), (nx, .inl (cI, 10, .inl now.1)), (ny, .inl (cI, 10, .inl now.2.1))] H := hP
          have hD : va_D A [(h0, .inr (2, [.ref hn, .ref hi0, .ref hi1, .int kp, .ref hR, .ref hT])), (hn, .inr (1, [.ref nx, .ref ny, .int now.2.2.1, .int now.2.2.2.1, .int now.2.2.2.2])), (nx, .inl (cI, 10, .inl now.1)), (ny, .inl (cI, 10, .inl now.2.1))] := hD
          refine lv_if_eq (tgt := 84) hx hb dX2_of_77 (by decide) (fun c_77 => ?_) (fun c_77 => ?_)
          · refine lv_iconst (v := 0) hx hb dX2_of_84 (by decide) ?_
            exact ret_i C () ((if_neg c_5).trans ((if_neg c_11_0).trans ((if_neg c_11_1).trans ((if_pos c_11_2).trans ((if_pos c_77)))))) hP hD hS dX2_of_85
          · refine lv_iconst (v := 1) hx hb dX2_of_80 (by decide) ?_
            refine lv_goto (tgt := 85) hx hb dX2_of_81 (by decide) ?_
            exact ret_i C () ((if_neg c_5).trans ((if_neg c_11_0).trans ((if_neg c_11_1).trans ((if_pos c_11_2).trans ((if_neg c_77)))))) hP hD hS dX2_of_85
        · by_cases c_11_3 : p1 = 3
          · refine lv_tableIn (off := 75) (tgt := 86) hx hb dX2_of_11 (by rw [c_11_3]; decide) (by rw [c_11_3]; decide) (by rw [c_11_3]; rfl) (by decide) ?_
            refine lv_aload_n hx hb dX2_of_86 rfl (lv_at hl 0 rfl) ?_
            refine va_get (D := D) (ci := 2) (v := .ref hn) (C := RX2) (T := TX2) (N := 6) hx hb hts iX2_of_X2 hown hK.1 hP 0 rfl rfl 0 (by decide) (hts (.fieldLink RX2 12 "CompassBias" "now" "LCompassBias$Samples;") (List.mem_of_getElem? (i := 1) rfl)) (fun _ h9 => h9) rfl dX2_of_87 ?_
            refine va_get (D := D) (ci := 1) (v := .ref nx) (C := RX1) (T := TX1) (N := 5) hx hb hts iX2_of_X1 hown hK.1 hP 1 rfl rfl 0 (by decide) (hts (.fieldLink RX2 43 "CompassBias$Samples" "xs" "[I") (List.mem_of_getElem? (i := 2) rfl)) (fun _ h9 => h9) rfl dX2_of_90 ?_
            refine lv_iload_n hx hb dX2_of_93 rfl (lv_at hl 1 rfl) ?_
            refine va_iald hx hb hK.1 hP 2 0 rfl rfl (samp_in c_5) dX2_of_94 ?_
            refine lv_aload_n hx hb dX2_of_95 rfl (lv_at hl 0 rfl) ?_
            refine va_get (D := D) (ci := 2) (v := .ref hn) (C := RX2) (T := TX2) (N := 6) hx hb hts iX2_of_X2 hown hK.1 hP 0 rfl rfl 0 (by decide) (hts (.fieldLink RX2 12 "CompassBias" "now" "LCompassBias$Samples;") (List.mem_of_getElem? (i := 1) rfl)) (fun _ h9 => h9) rfl dX2_of_96 ?_
            refine va_get (D := D) (ci := 1) (v := .ref ny) (C := RX1) (T := TX1) (N := 5) hx hb hts iX2_of_X1 hown hK.1 hP 1 rfl rfl 1 (by decide) (hts (.fieldLink RX2 47 "CompassBias$Samples" "ys" "[I") (List.mem_of_getElem? (i := 3) rfl)) (fun _ h9 => h9) rfl dX2_of_99 ?_
            refine lv_iload_n hx hb dX2_of_102 rfl (lv_at hl 1 rfl) ?_
            refine va_iald hx hb hK.1 hP 3 0 rfl rfl (samp_in c_5) dX2_of_103 ?_
            refine aft_i (wr := [(h0, .inr (2, [.ref hn, .ref hi0, .ref hi1, .int kp, .ref hR, .ref hT])), (hn, .inr (1, [.ref nx, .ref ny, .int now.2.2.1, .int now.2.2.2.1, .int now.2.2.2.2])), (nx, .inl (cI, 10, .inl now.1)), (ny, .inl (cI, 10, .inl now.2.1))]) (run_S (As := [.int (now.1 p0.toNatClampNeg), .int (now.2.1 p0.toNatClampNeg)]) (rest := []) C (c_X2_powerAt l D cI cZ (now.1 p0.toNatClampNeg) (now.2.1 p0.toNatClampNeg)) (va_cwS 2 hts gX2_of_X2_powerAt rfl rfl rfl (by decide +kernel) ⟨Nat.le_of_ble_eq_true rfl, Nat.le_of_ble_eq_true rfl⟩) hK (hP.sub (ws' := []) [] rfl) (hD.sub (ws' := []) [] (by decide) rfl) rfl hl.1 rfl (Nat.le_of_ble_eq_true rfl) dX2_of_104 (Nat.zero_le _) (Nat.zero_le _)) hP hD hS hA [] [0, 1, 2, 3] rfl rfl (by decide) (by decide) (fun z9 u9 H locs hw hP hD hS => ?_)
            subst hw
            have hP : va_P D classes [(h0, .inr (2, [.ref hn, .ref hi0, .ref hi1, .int kp, .ref hR, .ref hT])), (hn, .inr (1, [.ref nx, .ref ny, .int now.2.2.1, .int now.2.2.2.1, .int now.2.2.2.2])), (nx, .inl (cI, 10, .inl now.1)), (ny, .inl (cI, 10, .inl now.2.1))] H := hP
            have hD : va_D A [(h0, .inr (2, [.ref hn, .ref hi0, .ref hi1, .int kp, .ref hR, .ref hT])), (hn, .inr (1, [.ref nx, .ref ny, .int now.2.2.1, .int now.2.2.2.1, .int now.2.2.2.2])), (nx, .inl (cI, 10, .inl now.1)), (ny, .inl (cI, 10, .inl now.2.1))] := hD
            exact ret_i C () ((if_neg c_5).trans ((if_neg c_11_0).trans ((if_neg c_11_1).trans ((if_neg c_11_2).trans ((if_pos c_11_3)))))) hP hD hS dX2_of_107
          · refine lv_tableOut (tgt := 108) hx hb dX2_of_11 (by have h0 := lv_neT c_11_0 (a := 0) rfl; have h1 := lv_neT c_11_1 (a := 1) rfl; have h2 := lv_neT c_11_2 (a := 2) rfl; have h3 := lv_neT c_11_3 (a := 3) rfl; omega) (by decide) ?_
            refine lv_bipush (v := (-2)) hx hb dX2_of_108 (by decide) ?_
            exact ret_i C () ((if_neg c_5).trans ((if_neg c_11_0).trans ((if_neg c_11_1).trans ((if_neg c_11_2).trans ((if_neg c_11_3)))))) hP hD hS dX2_of_110
  · refine lv_iconst (v := (-1)) hx hb dX2_of_8 (by decide) ?_
    exact ret_i C () (if_pos c_5) hP hD hS dX2_of_9
def F_X2_need (now : Sm) (p0 : Int32) : Int32 × Sm := if (F_X2_isBetween p0 1 8) = 0 then (((-2), now)) else ((now.2.2.2.2, (now.1, now.2.1, now.2.2.1, now.2.2.2.1, p0)))
theorem iX2_need_X1 : ∀ w ∈ u_ws RX1 TX1 5, w ∈ wsX2_need := fun _ h => List.mem_cons_of_mem _ (List.mem_append_right _ (h))
theorem iX2_need_X2 : ∀ w ∈ u_ws RX2 TX2 6, w ∈ wsX2_need := fun _ h => List.mem_cons_of_mem _ (List.mem_append_left _ (List.mem_append_right _ (h)))
set_option maxHeartbeats 4000000 in
set_option maxRecDepth 100000 in
theorem c_X2_need (l : Launch) (D : va_G) (cI cZ : ClassId) (h0 hn hi0 hi1 hR hT nx ny : Nat) (now : Sm) (kp : Int32) (p0 : Int32) : CTi l yX2_need wsX2_need ({ frames := 1, cells := 0, slots := 0, locals := 22 } : Room) D cI cZ [.ref h0, .int p0] [(h0, .inr (2, [.ref hn, .ref hi0, .ref hi1, .int kp, .ref hR, .ref hT])), (hn, .inr (1, [.ref nx, .ref ny, .int now.2.2.1, .int now.2.2.2.1, .int now.2.2.2.2])), (nx, .inl (cI, 10, .inl now.1)), (ny, .inl (cI, 10, .inl now.2.1))] (S := Sm) (fun z9 u9 => F_X2_need now p0 = (z9, u9)) (fun u => [(h0, .inr (2, [.ref hn, .ref hi0, .ref hi1, .int kp, .ref hR, .ref hT])), (hn, .inr (1, [.ref nx, .ref ny, .int u.2.2.1, .int u.2.2.2.1, .int u.2.2.2.2])), (nx, .inl (cI, 10, .inl u.1)), (ny, .inl (cI, 10, .inl u.2.1))]) := by
  refine enterM (cc := cX2_need) (maxL := 3) (ret := (some .int)) (own := RX2) (Qc := fun A => va_Qi (S := Sm) (fun z9 u9 => F_X2_need now p0 = (z9, u9)) (PoB (S := Sm) D A (fun u => [(h0, .inr (2, [.ref hn, .ref hi0, .ref hi1, .int kp, .ref hR, .ref hT])), (hn, .inr (1, [.ref nx, .ref ny, .int u.2.2.1, .int u.2.2.2.1, .int u.2.2.2.2])), (nx, .inl (cI, 10, .inl u.1)), (ny, .inl (cI, 10, .inl u.2.1))])) A) (by decide) rfl rfl (Nat.le_of_ble_eq_true rfl) ?_
  intro p e s m below meth c A ls C hK hA hP hD hS hl
  have hx := C.1
  have hb := C.2.1
  have hown := C.2.2.2.1
  have hts := C.2.2.2.2.1
  have _huse := hts
  have hl : lv_has ls 3 [(0, .ref h0), (1, .int p0)] := hl
  refine lv_iload_n hx hb dX2_need_0 rfl (lv_at hl 1 rfl) ?_
  refine lv_iconst (v := 1) hx hb dX2_need_1 (by decide) ?_
  refine lv_bipush (v := 8) hx hb dX2_need_2 (by decide) ?_
  refine aft_i (wr := [(h0, .inr (2, [.ref hn, .ref hi0, .ref hi1, .int kp, .ref hR, .ref hT])), (hn, .inr (1, [.ref nx, .ref ny, .int now.2.2.1, .int now.2.2.2.1, .int now.2.2.2.2])), (nx, .inl (cI, 10, .inl now.1)), (ny, .inl (cI, 10, .inl now.2.1))]) (run_S (As := [.int p0, .int 1, .int 8]) (rest := []) C (c_X2_isBetween l D cI cZ p0 1 8) (va_cwS 3 hts gX2_need_X2_isBetween rfl rfl rfl (by decide +kernel) ⟨Nat.le_of_ble_eq_true rfl, Nat.le_of_ble_eq_true rfl⟩) hK (hP.sub (ws' := []) [] rfl) (hD.sub (ws' := []) [] (by decide) rfl) rfl hl.1 rfl (Nat.le_of_ble_eq_true rfl) dX2_need_4 (Nat.zero_le _) (Nat.zero_le _)) hP hD hS hA [] [0, 1, 2, 3] rfl rfl (by decide) (by decide) (fun z9 u9 H locs hw hP hD hS => ?_)
  subst hw
  have hP : va_P D classes [(h0, .inr (2, [.ref hn, .ref hi0, .ref hi1, .int kp, .ref hR, .ref hT])), (hn, .inr (1, [.ref nx, .ref ny, .int now.2.2.1, .int now.2.2.2.1, .int now.2.2.2.2])), (nx, .inl (cI, 10, .inl now.1)), (ny, .inl (cI, 10, .inl now.2.1))] H := hP
  have hD : va_D A [(h0, .inr (2, [.ref hn, .ref hi0, .ref hi1, .int kp, .ref hR, .ref hT])), (hn, .inr (1, [.ref nx, .ref ny, .int now.2.2.1, .int now.2.2.2.1, .int now.2.2.2.2])), (nx, .inl (cI, 10, .inl now.1)), (ny, .inl (cI, 10, .inl now.2.1))] := hD
  refine lv_if_ne (tgt := 13) hx hb dX2_need_7 (by decide) (fun c_7 => ?_) (fun c_7 => ?_)
  · refine lv_aload_n hx hb dX2_need_13 rfl (lv_at hl 0 rfl) ?_
    refine va_get (D := D) (ci := 2) (v := .ref hn) (C := RX2) (T := TX2) (N := 6) hx hb hts iX2_need_X2 hown hK.1 hP 0 rfl rfl 0 (by decide) (hts (.fieldLink RX2 12 "CompassBias" "now" "LCompassBias$Samples;") (List.mem_of_getElem? (i := 1) rfl)) (fun _ h9 => h9) rfl dX2_need_14 ?_
    refine va_get (D := D) (ci := 1) (v := .int now.2.2.2.2) (C := RX1) (T := TX1) (N := 5) hx hb hts iX2_need_X1 hown hK.1 hP 1 rfl rfl 4 (by decide) (hts (.fieldLink RX2 122 "CompassBias$Samples" "needed" "I") (List.mem_of_getElem? (i := 2) rfl)) (fun _ h9 => h9) rfl dX2_need_17 ?_
    refine lv_istore_n (lv' := [(2, .int now.2.2.2.2), (0, .ref h0), (1, .int p0)]) hx hb dX2_need_20 rfl hl (by decide) rfl (fun ls hl => ?_)
    refine lv_aload_n hx hb dX2_need_21 rfl (lv_at hl 1 rfl) ?_
    refine va_get (D := D) (ci := 2) (v := .ref hn) (C := RX2) (T := TX2) (N := 6) hx hb hts iX2_need_X2 hown hK.1 hP 0 rfl rfl 0 (by decide) (hts (.fieldLink RX2 12 "CompassBias" "now" "LCompassBias$Samples;") (List.mem_of_getElem? (i := 1) rfl)) (fun _ h9 => h9) rfl dX2_need_22 ?_
    refine lv_iload_n hx hb dX2_need_25 rfl (lv_at hl 2 rfl) ?_
    refine va_put (D := D) (ci := 1) (v := .int p0) (ty := .int) (C := RX1) (T := TX1) (N := 5) hx hb hts iX2_need_X1 tyX1 tyX1_ok nmX1 hown hK.1 hP hD hS 1 rfl rfl 4 (by decide) (hts (.fieldLink RX2 122 "CompassBias$Samples" "needed" "I") (List.mem_of_getElem? (i := 2) rfl)) (fun _ h9 => h9) rfl (by decide +kernel) rfl rfl (Nat.le_of_ble_eq_true rfl) dX2_need_26 (fun H locs hP hD hS => ?_)
    have hP : va_P D classes [(h0, .inr (2, [.ref hn, .ref hi0, .ref hi1, .int kp, .ref hR, .ref hT])), (hn, .inr (1, [.ref nx, .ref ny, .int now.2.2.1, .int now.2.2.2.1, .int p0])), (nx, .inl (cI, 10, .inl now.1)), (ny, .inl (cI, 10, .inl now.2.1))] H := hP
    have hD : va_D A [(h0, .inr (2, [.ref hn, .ref hi0, .ref hi1, .int kp, .ref hR, .ref hT])), (hn, .inr (1, [.ref nx, .ref ny, .int now.2.2.1, .int now.2.2.2.1, .int p0])), (nx, .inl (cI, 10, .inl now.1)), (ny, .inl (cI, 10, .inl now.2.1))] := hD
    refine lv_iload_n hx hb dX2_need_29 rfl (lv_at hl 0 rfl) ?_
    exact ret_i C (now.1, now.2.1, now.2.2.1, now.2.2.2.1, p0) (if_neg c_7) hP hD hS dX2_need_30
  · refine lv_bipush (v := (-2)) hx hb dX2_need_10 (by decide) ?_
    exact ret_i C now (if_pos c_7) hP hD hS dX2_need_12
def L_X2_greatestDivisor_9  : Nat → Int64 → Int64 → Int32 → Int64
  | 0, _, _, _ => 0
  | n + 1, a, b, i => if 100 ≤ i then (a) else (if (lg_cmp b 0) = 0 then (a) else (L_X2_greatestDivisor_9 n b (a - a / b * b) (i + 1)))
def F_X2_greatestDivisor (p0 : Int64) (p1 : Int64) : Int64 := L_X2_greatestDivisor_9 101 p0 p1 0
set_option maxHeartbeats 4000000 in
set_option maxRecDepth 100000 in
theorem c_X2_greatestDivisor (l : Launch) (D : va_G) (cI cZ : ClassId) (p0 : Int64) (p1 : Int64) : CTl l yX2_greatestDivisor wsX2_greatestDivisor ({ frames := 0, cells := 0, slots := 0, locals := 0 } : Room) D cI cZ [.long p0, .long p1] [] (S := Unit) (fun z9 _ => F_X2_greatestDivisor p0 p1 = z9) (fun _ => []) := by
  refine enterM (cc := cX2_greatestDivisor) (maxL := 11) (ret := (some .long)) (own := RX2) (Qc := fun A => va_Ql (S := Unit) (fun z9 _ => F_X2_greatestDivisor p0 p1 = z9) (PoB (S := Unit) D A (fun _ => [])) A) (by decide) rfl rfl (Nat.le_of_ble_eq_true rfl) ?_
  intro p e s m below meth c A ls C hK hA hP hD hS hl
  have hx := C.1
  have hb := C.2.1
  have hown := C.2.2.2.1
  have hts := C.2.2.2.2.1
  have _huse := hts
  have K9 : ∀ (n : Nat) (k : Nat) (a : Int64) (b : Int64) (i : Int32) (_ : i.toInt = (k : Int)) (_ : k ≤ 100) (_ : 100 < k + n) (X : Int64) (_ : X = L_X2_greatestDivisor_9 n a b i) (H : Heap) (locs : List Loc) (_ : va_P D classes [] H) (_ : va_D A []) (_ : va_S A s.heap H locs) (ls : Array Slot) (_ : lv_has ls 11 [(0, .long p0), (2, .long p1), (4, .long a), (6, .long b), (8, .int i)]), W p l e ({ frames := 0, cells := 0, slots := 0, locals := 0 } : Room) s m [.long p0, .long p1].toArray below meth c H locs 0 0 (MQ below (va_Ql (S := Unit) (fun z9 _ => X = z9) (PoB (S := Unit) D A (fun _ => [])) A) [.long p0, .long p1].toArray s 0 0 A) (F0 m 9 ls []) := by
    intro n
    induction n with
    | zero =>
      intro k a b i hi hk hfu X hX H locs hP hD hS ls hl
      exact absurd hfu (by omega)
    | succ n ih =>
      intro k a b i hi hk hfu X hX H locs hP hD hS ls hl
      refine lv_iload hx hb dX2_greatestDivisor_9 (lv_at hl 4 rfl) ?_
      refine lv_bipush (v := 100) hx hb dX2_greatestDivisor_11 (by decide) ?_
      refine lv_icmp_ge (tgt := 44) hx hb dX2_greatestDivisor_13 (by decide) (fun c_13 => ?_) (fun c_13 => ?_)
      · refine lv_lload hx hb dX2_greatestDivisor_44 (lv_at hl 2 rfl) ?_
        exact ret_l C () (hX.trans ((if_pos c_13))) hP hD hS dX2_greatestDivisor_46
      · refine lv_lload hx hb dX2_greatestDivisor_16 (lv_at hl 3 rfl) ?_
        refine lv_lconst (v := 0) hx hb dX2_greatestDivisor_18 (by decide) ?_
        refine W.lcmp hx hb dX2_greatestDivisor_19 ?_
        refine lv_if_eq (tgt := 44) hx hb dX2_greatestDivisor_20 (by decide) (fun c_20 => ?_) (fun c_20 => ?_)
        · refine lv_lload hx hb dX2_greatestDivisor_44 (lv_at hl 2 rfl) ?_
          exact ret_l C () (hX.trans ((if_neg c_13).trans ((if_pos c_20)))) hP hD hS dX2_greatestDivisor_46
        · refine lv_lload hx hb dX2_greatestDivisor_23 (lv_at hl 2 rfl) ?_
          refine lv_lload hx hb dX2_greatestDivisor_25 (lv_at hl 3 rfl) ?_
          refine lv_lrem hx hb dX2_greatestDivisor_27 (lcz c_20) ?_
          refine lv_lstore (lv' := [(9, .long (a - a / b * b)), (0, .long p0), (2, .long p1), (4, .long a), (6, .long b), (8, .int i)]) hx hb dX2_greatestDivisor_28 hl (by decide) rfl (fun ls hl => ?_)
          refine lv_lload hx hb dX2_greatestDivisor_30 (lv_at hl 4 rfl) ?_
          refine lv_lstore (lv' := [(4, .long b), (9, .long (a - a / b * b)), (0, .long p0), (2, .long p1), (6, .long b), (8, .int i)]) hx hb dX2_greatestDivisor_32 hl (by decide) rfl (fun ls hl => ?_)
          refine lv_lload hx hb dX2_greatestDivisor_34 (lv_at hl 1 rfl) ?_
          refine lv_lstore (lv' := [(6, .long (a - a / b * b)), (4, .long b), (9, .long (a - a / b * b)), (0, .long p0), (2, .long p1), (8, .int i)]) hx hb dX2_greatestDivisor_36 hl (by decide) rfl (fun ls hl => ?_)
          refine lv_iinc (v := i + 1) (lv' := [(8, .int (i + 1)), (6, .long (a - a / b * b)), (4, .long b), (9, .long (a - a / b * b)), (0, .long p0), (2, .long p1)]) hx hb dX2_greatestDivisor_38 hl (k := 5) rfl rfl (by decide) rfl (fun ls hl => ?_)
          refine lv_goto (tgt := 9) hx hb dX2_greatestDivisor_41 (by decide) ?_
          exact ih (k + 1) b (a - a / b * b) (i + 1) (i_succ hi (by omega)) (i_lt100 hi c_13) (by omega) X (hX.trans ((if_neg c_13).trans ((if_neg c_20)))) _ _ hP hD hS _ (lv_sub hl [4, 5, 2, 1, 0] rfl)
  have hl : lv_has ls 11 [(0, .long p0), (2, .long p1)] := hl
  refine lv_lload_n hx hb dX2_greatestDivisor_0 rfl (lv_at hl 0 rfl) ?_
  refine lv_lstore (lv' := [(4, .long p0), (0, .long p0), (2, .long p1)]) hx hb dX2_greatestDivisor_1 hl (by decide) rfl (fun ls hl => ?_)
  refine lv_lload_n hx hb dX2_greatestDivisor_3 rfl (lv_at hl 2 rfl) ?_
  refine lv_lstore (lv' := [(6, .long p1), (4, .long p0), (0, .long p0), (2, .long p1)]) hx hb dX2_greatestDivisor_4 hl (by decide) rfl (fun ls hl => ?_)
  refine lv_iconst (v := 0) hx hb dX2_greatestDivisor_6 (by decide) ?_
  refine lv_istore (lv' := [(8, .int 0), (6, .long p1), (4, .long p0), (0, .long p0), (2, .long p1)]) hx hb dX2_greatestDivisor_7 hl (by decide) rfl (fun ls hl => ?_)
  exact K9 101 0 p0 p1 0 rfl (by omega) (by omega) (F_X2_greatestDivisor p0 p1) rfl _ _ hP hD hS _ (lv_sub hl [3, 4, 2, 1, 0] rfl)
def F_X2_partOfLowest (p0 : Int64) (p1 : Int64) (p2 : Int32) : Int64 := if 0 < (lg_cmp (F_X2_greatestDivisor (if 0 < p0 then p0 else -p0) p1) 0) then (if p2 = 0 then (p0 / (F_X2_greatestDivisor (if 0 < p0 then p0 else -p0) p1)) else (p1 / (F_X2_greatestDivisor (if 0 < p0 then p0 else -p0) p1))) else (p2.toInt64)
set_option maxHeartbeats 4000000 in
set_option maxRecDepth 100000 in
theorem c_X2_partOfLowest (l : Launch) (D : va_G) (cI cZ : ClassId) (p0 : Int64) (p1 : Int64) (p2 : Int32) : CTl l yX2_partOfLowest wsX2_partOfLowest ({ frames := 1, cells := 0, slots := 0, locals := 30 } : Room) D cI cZ [.long p0, .long p1, .int p2] [] (S := Unit) (fun z9 _ => F_X2_partOfLowest p0 p1 p2 = z9) (fun _ => []) := by
  refine enterM (cc := cX2_partOfLowest) (maxL := 7) (ret := (some .long)) (own := RX2) (Qc := fun A => va_Ql (S := Unit) (fun z9 _ => F_X2_partOfLowest p0 p1 p2 = z9) (PoB (S := Unit) D A (fun _ => [])) A) (by decide) rfl rfl (Nat.le_of_ble_eq_true rfl) ?_
  intro p e s m below meth c A ls C hK hA hP hD hS hl
  have hx := C.1
  have hb := C.2.1
  have hown := C.2.2.2.1
  have hts := C.2.2.2.2.1
  have _huse := hts
  have hl : lv_has ls 7 [(0, .long p0), (2, .long p1), (4, .int p2)] := hl
  refine lv_lload_n hx hb dX2_partOfLowest_0 rfl (lv_at hl 0 rfl) ?_
  refine va_mabs_long hx hb (by rw [C.2.2.1]; exact hl.1.symm) hown (hts (.methodLink RX2 153 Lib.MathLoose.abs_long.x) (List.mem_of_getElem? (i := 1) rfl)) (hts (.static Lib.MathLoose.abs_long.x) (List.mem_of_getElem? (i := 2) rfl)) (hts (.initialized "java/lang/Math") (List.mem_of_getElem? (i := 3) rfl)) (hts (.code Lib.MathLoose.abs_long.x Lib.MathLoose.abs_long.code 2 (some .long)) (List.mem_of_getElem? (i := 4) rfl)) (Nat.le_of_ble_eq_true rfl) (Nat.le_of_ble_eq_true rfl) (Nat.zero_le _) (Nat.zero_le _) dX2_partOfLowest_1 ?_
  refine lv_lload_n hx hb dX2_partOfLowest_4 rfl (lv_at hl 1 rfl) ?_
  refine aft_l (wr := []) (run_S (As := [.long (if 0 < p0 then p0 else -p0), .long p1]) (rest := []) C (c_X2_greatestDivisor l D cI cZ (if 0 < p0 then p0 else -p0) p1) (va_cwS 2 hts gX2_partOfLowest_X2_greatestDivisor rfl rfl rfl (by decide +kernel) ⟨Nat.le_of_ble_eq_true rfl, Nat.le_of_ble_eq_true rfl⟩) hK (hP.sub (ws' := []) [] rfl) (hD.sub (ws' := []) [] (by decide) rfl) rfl hl.1 rfl (Nat.le_of_ble_eq_true rfl) dX2_partOfLowest_5 (Nat.zero_le _) (Nat.zero_le _)) hP hD hS hA [] [] rfl rfl (by decide) (by decide) (fun z9 u9 H locs hw hP hD hS => ?_)
  subst hw
  have hP : va_P D classes [] H := hP
  have hD : va_D A [] := hD
  refine lv_lstore (lv' := [(5, .long (F_X2_greatestDivisor (if 0 < p0 then p0 else -p0) p1)), (0, .long p0), (2, .long p1), (4, .int p2)]) hx hb dX2_partOfLowest_8 hl (by decide) rfl (fun ls hl => ?_)
  refine lv_lload hx hb dX2_partOfLowest_10 (lv_at hl 0 rfl) ?_
  refine lv_lconst (v := 0) hx hb dX2_partOfLowest_12 (by decide) ?_
  refine W.lcmp hx hb dX2_partOfLowest_13 ?_
  refine lv_if_gt (tgt := 21) hx hb dX2_partOfLowest_14 (by decide) (fun c_14 => ?_) (fun c_14 => ?_)
  · refine lv_iload hx hb dX2_partOfLowest_21 (lv_at hl 3 rfl) ?_
    refine lv_if_ne (tgt := 30) hx hb dX2_partOfLowest_23 (by decide) (fun c_23 => ?_) (fun c_23 => ?_)
    · refine lv_lload_n hx hb dX2_partOfLowest_30 rfl (lv_at hl 2 rfl) ?_
      refine lv_lload hx hb dX2_partOfLowest_31 (lv_at hl 0 rfl) ?_
      refine lv_ldiv hx hb dX2_partOfLowest_33 (lgz c_14) ?_
      exact ret_l C () ((if_pos c_14).trans ((if_neg c_23))) hP hD hS dX2_partOfLowest_34
    · refine lv_lload_n hx hb dX2_partOfLowest_26 rfl (lv_at hl 1 rfl) ?_
      refine lv_goto (tgt := 31) hx hb dX2_partOfLowest_27 (by decide) ?_
      refine lv_lload hx hb dX2_partOfLowest_31 (lv_at hl 0 rfl) ?_
      refine lv_ldiv hx hb dX2_partOfLowest_33 (lgz c_14) ?_
      exact ret_l C () ((if_pos c_14).trans ((if_pos c_23))) hP hD hS dX2_partOfLowest_34
  · refine lv_iload hx hb dX2_partOfLowest_17 (lv_at hl 3 rfl) ?_
    refine lv_i2l (v := p2.toInt64) hx hb dX2_partOfLowest_19 rfl ?_
    exact ret_l C () (if_neg c_14) hP hD hS dX2_partOfLowest_20
def L_X2_sumUp_6 (now : Sm) (p0 : Int32) : Nat → Int32 → Rd → Rd
  | 0, _, _ => (0, 0, 0, 0, 0, 0, 0, 0, 0, 0, 0, 0, 0)
  | n + 1, i, q => if 10 ≤ i then (q) else (if (F_X2_isIn p0 i) = 0 then (L_X2_sumUp_6 now p0 n (i + 1) q) else (L_X2_sumUp_6 now p0 n (i + 1) (F_X0_include q (now.1 i.toNatClampNeg) (now.2.1 i.toNatClampNeg))))
def F_X2_sumUp (now : Sm) (r : Rd) (p0 : Int32) : Rd := L_X2_sumUp_6 now p0 11 0 (F_X0_empty r)
theorem iX2_sumUp_X1 : ∀ w ∈ u_ws RX1 TX1 5, w ∈ wsX2_sumUp := fun _ h => List.mem_cons_of_mem _ (List.mem_append_left _ (List.mem_append_right _ (h)))
theorem iX2_sumUp_X2 : ∀ w ∈ u_ws RX2 TX2 6, w ∈ wsX2_sumUp := fun _ h => List.mem_cons_of_mem _ (List.mem_append_left _ (List.mem_append_left _ (List.mem_append_right _ (h))))
set_option maxHeartbeats 4000000 in
set_option maxRecDepth 100000 in
theorem c_X2_sumUp (l : Launch) (D : va_G) (cI cZ : ClassId) (h0 hr hn hi0 hi1 hR hT nx ny : Nat) (now : Sm) (kp : Int32) (r : Rd) (p0 : Int32) : CTv l yX2_sumUp wsX2_sumUp ({ frames := 2, cells := 0, slots := 0, locals := 44 } : Room) D cI cZ [.ref h0, .ref hr, .int p0] [(h0, .inr (2, [.ref hn, .ref hi0, .ref hi1, .int kp, .ref hR, .ref hT])), (hn, .inr (1, [.ref nx, .ref ny, .int now.2.2.1, .int now.2.2.2.1, .int now.2.2.2.2])), (nx, .inl (cI, 10, .inl now.1)), (ny, .inl (cI, 10, .inl now.2.1)), (hr, .inr (0, rdv r))] (S := Rd) (fun u9 => F_X2_sumUp now r p0 = u9) (fun u => [(h0, .inr (2, [.ref hn, .ref hi0, .ref hi1, .int kp, .ref hR, .ref hT])), (hn, .inr (1, [.ref nx, .ref ny, .int now.2.2.1, .int now.2.2.2.1, .int now.2.2.2.2])), (nx, .inl (cI, 10, .inl now.1)), (ny, .inl (cI, 10, .inl now.2.1)), (hr, .inr (0, rdv u))]) := by
  refine enterM (cc := cX2_sumUp) (maxL := 4) (ret := none) (own := RX2) (Qc := fun A => va_Qv (S := Rd) (fun u9 => F_X2_sumUp now r p0 = u9) (PoB (S := Rd) D A (fun u => [(h0, .inr (2, [.ref hn, .ref hi0, .ref hi1, .int kp, .ref hR, .ref hT])), (hn, .inr (1, [.ref nx, .ref ny, .int now.2.2.1, .int now.2.2.2.1, .int now.2.2.2.2])), (nx, .inl (cI, 10, .inl now.1)), (ny, .inl (cI, 10, .inl now.2.1)), (hr, .inr (0, rdv u))])) A) (by decide) rfl rfl (Nat.le_of_ble_eq_true rfl) ?_
  intro p e s m below meth c A ls C hK hA hP hD hS hl
  have hx := C.1
  have hb := C.2.1
  have hown := C.2.2.2.1
  have hts := C.2.2.2.2.1
  have _huse := hts
  have K6 : ∀ (n : Nat) (k : Nat) (i : Int32) (q : Rd) (_ : i.toInt = (k : Int)) (_ : k ≤ 10) (_ : 10 < k + n) (X : Rd) (_ : X = L_X2_sumUp_6 now p0 n i q) (H : Heap) (locs : List Loc) (_ : va_P D classes [(h0, .inr (2, [.ref hn, .ref hi0, .ref hi1, .int kp, .ref hR, .ref hT])), (hn, .inr (1, [.ref nx, .ref ny, .int now.2.2.1, .int now.2.2.2.1, .int now.2.2.2.2])), (nx, .inl (cI, 10, .inl now.1)), (ny, .inl (cI, 10, .inl now.2.1)), (hr, .inr (0, rdv q))] H) (_ : va_D A [(h0, .inr (2, [.ref hn, .ref hi0, .ref hi1, .int kp, .ref hR, .ref hT])), (hn, .inr (1, [.ref nx, .ref ny, .int now.2.2.1, .int now.2.2.2.1, .int now.2.2.2.2])), (nx, .inl (cI, 10, .inl now.1)), (ny, .inl (cI, 10, .inl now.2.1)), (hr, .inr (0, rdv q))]) (_ : va_S A s.heap H locs) (ls : Array Slot) (_ : lv_has ls 4 [(0, .ref h0), (1, .ref hr), (2, .int p0), (3, .int i)]), W p l e ({ frames := 2, cells := 0, slots := 0, locals := 44 } : Room) s m [.ref h0, .ref hr, .int p0].toArray below meth c H locs 0 0 (MQ below (va_Qv (S := Rd) (fun u9 => X = u9) (PoB (S := Rd) D A (fun u => [(h0, .inr (2, [.ref hn, .ref hi0, .ref hi1, .int kp, .ref hR, .ref hT])), (hn, .inr (1, [.ref nx, .ref ny, .int now.2.2.1, .int now.2.2.2.1, .int now.2.2.2.2])), (nx, .inl (cI, 10, .inl now.1)), (ny, .inl (cI, 10, .inl now.2.1)), (hr, .inr (0, rdv u))])) A) [.ref h0, .ref hr, .int p0].toArray s 0 0 A) (F0 m 6 ls []) := by
    intro n
    induction n with
    | zero =>
      intro k i q hi hk hfu X hX H locs hP hD hS ls hl
      exact absurd hfu (by omega)
    | succ n ih =>
      intro k i q hi hk hfu X hX H locs hP hD hS ls hl
      refine lv_iload_n hx hb dX2_sumUp_6 rfl (lv_at hl 3 rfl) ?_
      refine lv_bipush (v := 10) hx hb dX2_sumUp_7 (by decide) ?_
      refine lv_icmp_ge (tgt := 48) hx hb dX2_sumUp_9 (by decide) (fun c_9 => ?_) (fun c_9 => ?_)
      · exact ret_v C q (hX.trans ((if_pos c_9))) hP hD hS dX2_sumUp_48
      · refine lv_iload_n hx hb dX2_sumUp_12 rfl (lv_at hl 2 rfl) ?_
        refine lv_iload_n hx hb dX2_sumUp_13 rfl (lv_at hl 3 rfl) ?_
        refine aft_i (wr := [(h0, .inr (2, [.ref hn, .ref hi0, .ref hi1, .int kp, .ref hR, .ref hT])), (hn, .inr (1, [.ref nx, .ref ny, .int now.2.2.1, .int now.2.2.2.1, .int now.2.2.2.2])), (nx, .inl (cI, 10, .inl now.1)), (ny, .inl (cI, 10, .inl now.2.1)), (hr, .inr (0, rdv q))]) (run_S (As := [.int p0, .int i]) (rest := []) C (c_X2_isIn l D cI cZ p0 i) (va_cwS 2 hts gX2_sumUp_X2_isIn rfl rfl rfl (by decide +kernel) ⟨Nat.le_of_ble_eq_true rfl, Nat.le_of_ble_eq_true rfl⟩) hK (hP.sub (ws' := []) [] rfl) (hD.sub (ws' := []) [] (by decide) rfl) rfl hl.1 rfl (Nat.le_of_ble_eq_true rfl) dX2_sumUp_14 (Nat.zero_le _) (Nat.zero_le _)) hP hD hS hA [] [0, 1, 2, 3, 4] rfl rfl (by decide) (by decide) (fun z9 u9 H locs hw hP hD hS => ?_)
        subst hw
        have hP : va_P D classes [(h0, .inr (2, [.ref hn, .ref hi0, .ref hi1, .int kp, .ref hR, .ref hT])), (hn, .inr (1, [.ref nx, .ref ny, .int now.2.2.1, .int now.2.2.2.1, .int now.2.2.2.2])), (nx, .inl (cI, 10, .inl now.1)), (ny, .inl (cI, 10, .inl now.2.1)), (hr, .inr (0, rdv q))] H := hP
        have hD : va_D A [(h0, .inr (2, [.ref hn, .ref hi0, .ref hi1, .int kp, .ref hR, .ref hT])), (hn, .inr (1, [.ref nx, .ref ny, .int now.2.2.1, .int now.2.2.2.1, .int now.2.2.2.2])), (nx, .inl (cI, 10, .inl now.1)), (ny, .inl (cI, 10, .inl now.2.1)), (hr, .inr (0, rdv q))] := hD
        refine lv_if_eq (tgt := 42) hx hb dX2_sumUp_17 (by decide) (fun c_17 => ?_) (fun c_17 => ?_)
        · refine lv_iinc (v := i + 1) (lv' := [(3, .int (i + 1)), (0, .ref h0), (1, .ref hr), (2, .int p0)]) hx hb dX2_sumUp_42 hl (k := 3) rfl rfl (by decide) rfl (fun ls hl => ?_)
          refine lv_goto (tgt := 6) hx hb dX2_sumUp_45 (by decide) ?_
          exact ih (k + 1) (i + 1) q (i_succ hi (by omega)) (i_lt10 hi c_9) (by omega) X (hX.trans ((if_neg c_9).trans ((if_pos c_17)))) _ _ hP hD hS _ (lv_sub hl [1, 2, 3, 0] rfl)
        · refine lv_aload_n hx hb dX2_sumUp_20 rfl (lv_at hl 1 rfl) ?_
          refine lv_aload_n hx hb dX2_sumUp_21 rfl (lv_at hl 0 rfl) ?_
          refine va_get (D := D) (ci := 2) (v := .ref hn) (C := RX2) (T := TX2) (N := 6) hx hb hts iX2_sumUp_X2 hown hK.1 hP 0 rfl rfl 0 (by decide) (hts (.fieldLink RX2 12 "CompassBias" "now" "LCompassBias$Samples;") (List.mem_of_getElem? (i := 1) rfl)) (fun _ h9 => h9) rfl dX2_sumUp_22 ?_
          refine va_get (D := D) (ci := 1) (v := .ref nx) (C := RX1) (T := TX1) (N := 5) hx hb hts iX2_sumUp_X1 hown hK.1 hP 1 rfl rfl 0 (by decide) (hts (.fieldLink RX2 43 "CompassBias$Samples" "xs" "[I") (List.mem_of_getElem? (i := 2) rfl)) (fun _ h9 => h9) rfl dX2_sumUp_25 ?_
          refine lv_iload_n hx hb dX2_sumUp_28 rfl (lv_at hl 3 rfl) ?_
          refine va_iald hx hb hK.1 hP 2 0 rfl rfl (vp_of hi (i_lt10 hi c_9)) dX2_sumUp_29 ?_
          refine lv_aload_n hx hb dX2_sumUp_30 rfl (lv_at hl 0 rfl) ?_
          refine va_get (D := D) (ci := 2) (v := .ref hn) (C := RX2) (T := TX2) (N := 6) hx hb hts iX2_sumUp_X2 hown hK.1 hP 0 rfl rfl 0 (by decide) (hts (.fieldLink RX2 12 "CompassBias" "now" "LCompassBias$Samples;") (List.mem_of_getElem? (i := 1) rfl)) (fun _ h9 => h9) rfl dX2_sumUp_31 ?_
          refine va_get (D := D) (ci := 1) (v := .ref ny) (C := RX1) (T := TX1) (N := 5) hx hb hts iX2_sumUp_X1 hown hK.1 hP 1 rfl rfl 1 (by decide) (hts (.fieldLink RX2 47 "CompassBias$Samples" "ys" "[I") (List.mem_of_getElem? (i := 3) rfl)) (fun _ h9 => h9) rfl dX2_sumUp_34 ?_
          refine lv_iload_n hx hb dX2_sumUp_37 rfl (lv_at hl 3 rfl) ?_
          refine va_iald hx hb hK.1 hP 3 0 rfl rfl (vp_of hi (i_lt10 hi c_9)) dX2_sumUp_38 ?_
          refine aft_v (wr := [(h0, .inr (2, [.ref hn, .ref hi0, .ref hi1, .int kp, .ref hR, .ref hT])), (hn, .inr (1, [.ref nx, .ref ny, .int now.2.2.1, .int now.2.2.2.1, .int now.2.2.2.2])), (nx, .inl (cI, 10, .inl now.1)), (ny, .inl (cI, 10, .inl now.2.1))]) (run_V (As := [.int (now.1 i.toNatClampNeg), .int (now.2.1 i.toNatClampNeg)]) (rest := []) C (c_X0_include l D cI cZ hr q (now.1 i.toNatClampNeg) (now.2.1 i.toNatClampNeg)) (cwV 2 hts gX2_sumUp_X0_include rfl rfl rfl (by decide +kernel) ⟨Nat.le_of_ble_eq_true rfl, Nat.le_of_ble_eq_true rfl⟩) hK (hP.sub (ws' := [(hr, .inr (0, rdv q))]) [4] rfl) (hD.sub (ws' := [(hr, .inr (0, rdv q))]) [4] (by decide) rfl) 0 0 rfl rfl rfl rfl hl.1 rfl (Nat.le_of_ble_eq_true rfl) dX2_sumUp_39 (Nat.zero_le _) (Nat.zero_le _)) hP hD hS hA [4] [0, 1, 2, 3] rfl rfl (by decide) (by decide) (fun u9 H locs hw hP hD hS => ?_)
          subst hw
          have hP : va_P D classes [(h0, .inr (2, [.ref hn, .ref hi0, .ref hi1, .int kp, .ref hR, .ref hT])), (hn, .inr (1, [.ref nx, .ref ny, .int now.2.2.1, .int now.2.2.2.1, .int now.2.2.2.2])), (nx, .inl (cI, 10, .inl now.1)), (ny, .inl (cI, 10, .inl now.2.1)), (hr, .inr (0, rdv (F_X0_include q (now.1 i.toNatClampNeg) (now.2.1 i.toNatClampNeg))))] H := hP
          have hD : va_D A [(h0, .inr (2, [.ref hn, .ref hi0, .ref hi1, .int kp, .ref hR, .ref hT])), (hn, .inr (1, [.ref nx, .ref ny, .int now.2.2.1, .int now.2.2.2.1, .int now.2.2.2.2])), (nx, .inl (cI, 10, .inl now.1)), (ny, .inl (cI, 10, .inl now.2.1)), (hr, .inr (0, rdv (F_X0_include q (now.1 i.toNatClampNeg) (now.2.1 i.toNatClampNeg))))] := hD
          refine lv_iinc (v := i + 1) (lv' := [(3, .int (i + 1)), (0, .ref h0), (1, .ref hr), (2, .int p0)]) hx hb dX2_sumUp_42 hl (k := 3) rfl rfl (by decide) rfl (fun ls hl => ?_)
          refine lv_goto (tgt := 6) hx hb dX2_sumUp_45 (by decide) ?_
          exact ih (k + 1) (i + 1) (F_X0_include q (now.1 i.toNatClampNeg) (now.2.1 i.toNatClampNeg)) (i_succ hi (by omega)) (i_lt10 hi c_9) (by omega) X (hX.trans ((if_neg c_9).trans ((if_neg c_17)))) _ _ hP hD hS _ (lv_sub hl [1, 2, 3, 0] rfl)
  have hl : lv_has ls 4 [(0, .ref h0), (1, .ref hr), (2, .int p0)] := hl
  refine lv_aload_n hx hb dX2_sumUp_0 rfl (lv_at hl 1 rfl) ?_
  refine aft_v (wr := [(h0, .inr (2, [.ref hn, .ref hi0, .ref hi1, .int kp, .ref hR, .ref hT])), (hn, .inr (1, [.ref nx, .ref ny, .int now.2.2.1, .int now.2.2.2.1, .int now.2.2.2.2])), (nx, .inl (cI, 10, .inl now.1)), (ny, .inl (cI, 10, .inl now.2.1))]) (run_V (As := []) (rest := []) C (c_X0_empty l D cI cZ hr r) (cwV 0 hts gX2_sumUp_X0_empty rfl rfl rfl (by decide +kernel) ⟨Nat.le_of_ble_eq_true rfl, Nat.le_of_ble_eq_true rfl⟩) hK (hP.sub (ws' := [(hr, .inr (0, rdv r))]) [4] rfl) (hD.sub (ws' := [(hr, .inr (0, rdv r))]) [4] (by decide) rfl) 0 0 rfl rfl rfl rfl hl.1 rfl (Nat.le_of_ble_eq_true rfl) dX2_sumUp_1 (Nat.zero_le _) (Nat.zero_le _)) hP hD hS hA [4] [0, 1, 2, 3] rfl rfl (by decide) (by decide) (fun u9 H locs hw hP hD hS => ?_)
  subst hw
  have hP : va_P D classes [(h0, .inr (2, [.ref hn, .ref hi0, .ref hi1, .int kp, .ref hR, .ref hT])), (hn, .inr (1, [.ref nx, .ref ny, .int now.2.2.1, .int now.2.2.2.1, .int now.2.2.2.2])), (nx, .inl (cI, 10, .inl now.1)), (ny, .inl (cI, 10, .inl now.2.1)), (hr, .inr (0, rdv (F_X0_empty r)))] H := hP
  have hD : va_D A [(h0, .inr (2, [.ref hn, .ref hi0, .ref hi1, .int kp, .ref hR, .ref hT])), (hn, .inr (1, [.ref nx, .ref ny, .int now.2.2.1, .int now.2.2.2.1, .int now.2.2.2.2])), (nx, .inl (cI, 10, .inl now.1)), (ny, .inl (cI, 10, .inl now.2.1)), (hr, .inr (0, rdv (F_X0_empty r)))] := hD
  refine lv_iconst (v := 0) hx hb dX2_sumUp_4 (by decide) ?_
  refine lv_istore_n (lv' := [(3, .int 0), (0, .ref h0), (1, .ref hr), (2, .int p0)]) hx hb dX2_sumUp_5 rfl hl (by decide) rfl (fun ls hl => ?_)
  exact K6 11 0 0 (F_X0_empty r) rfl (by omega) (by omega) (F_X2_sumUp now r p0) rfl _ _ hP hD hS _ (lv_sub hl [1, 2, 3, 0] rfl)
def F_X2_layTheRound (now : Sm) (r : Rd) : Rd := F_X0_lay (F_X2_sumUp now r now.2.2.2.1)
theorem iX2_layTheRound_X1 : ∀ w ∈ u_ws RX1 TX1 5, w ∈ wsX2_layTheRound := fun _ h => List.mem_cons_of_mem _ (List.mem_append_left _ (List.mem_append_right _ (h)))
theorem iX2_layTheRound_X2 : ∀ w ∈ u_ws RX2 TX2 6, w ∈ wsX2_layTheRound := fun _ h => List.mem_cons_of_mem _ (List.mem_append_left _ (List.mem_append_left _ (List.mem_append_right _ (h))))
set_option maxHeartbeats 4000000 in
set_option maxRecDepth 100000 in
theorem c_X2_layTheRound (l : Launch) (D : va_G) (cI cZ : ClassId) (h0 hn hi0 hi1 hR hT nx ny : Nat) (now : Sm) (kp : Int32) (r : Rd) : CTv l yX2_layTheRound wsX2_layTheRound ({ frames := 3, cells := 0, slots := 0, locals := 67 } : Room) D cI cZ [.ref h0] [(h0, .inr (2, [.ref hn, .ref hi0, .ref hi1, .int kp, .ref hR, .ref hT])), (hn, .inr (1, [.ref nx, .ref ny, .int now.2.2.1, .int now.2.2.2.1, .int now.2.2.2.2])), (nx, .inl (cI, 10, .inl now.1)), (ny, .inl (cI, 10, .inl now.2.1)), (hR, .inr (0, rdv r))] (S := Rd) (fun u9 => F_X2_layTheRound now r = u9) (fun u => [(h0, .inr (2, [.ref hn, .ref hi0, .ref hi1, .int kp, .ref hR, .ref hT])), (hn, .inr (1, [.ref nx, .ref ny, .int now.2.2.1, .int now.2.2.2.1, .int now.2.2.2.2])), (nx, .inl (cI, 10, .inl now.1)), (ny, .inl (cI, 10, .inl now.2.1)), (hR, .inr (0, rdv u))]) := by
  refine enterM (cc := cX2_layTheRound) (maxL := 1) (ret := none) (own := RX2) (Qc := fun A => va_Qv (S := Rd) (fun u9 => F_X2_layTheRound now r = u9) (PoB (S := Rd) D A (fun u => [(h0, .inr (2, [.ref hn, .ref hi0, .ref hi1, .int kp, .ref hR, .ref hT])), (hn, .inr (1, [.ref nx, .ref ny, .int now.2.2.1, .int now.2.2.2.1, .int now.2.2.2.2])), (nx, .inl (cI, 10, .inl now.1)), (ny, .inl (cI, 10, .inl now.2.1)), (hR, .inr (0, rdv u))])) A) (by decide) rfl rfl (Nat.le_of_ble_eq_true rfl) ?_
  intro p e s m below meth c A ls C hK hA hP hD hS hl
  have hx := C.1
  have hb := C.2.1
  have hown := C.2.2.2.1
  have hts := C.2.2.2.2.1
  have _huse := hts
  have hl : lv_has ls 1 [(0, .ref h0)] := hl
  refine lv_aload_n hx hb dX2_layTheRound_0 rfl (lv_at hl 0 rfl) ?_
  refine lv_aload_n hx hb dX2_layTheRound_1 rfl (lv_at hl 0 rfl) ?_
  refine va_get (D := D) (ci := 2) (v := .ref hR) (C := RX2) (T := TX2) (N := 6) hx hb hts iX2_layTheRound_X2 hown hK.1 hP 0 rfl rfl 4 (by decide) (hts (.fieldLink RX2 29 "CompassBias" "theRound" "LCompassBias$Round;") (List.mem_of_getElem? (i := 1) rfl)) (fun _ h9 => h9) rfl dX2_layTheRound_2 ?_
  refine lv_aload_n hx hb dX2_layTheRound_5 rfl (lv_at hl 0 rfl) ?_
  refine va_get (D := D) (ci := 2) (v := .ref hn) (C := RX2) (T := TX2) (N := 6) hx hb hts iX2_layTheRound_X2 hown hK.1 hP 0 rfl rfl 0 (by decide) (hts (.fieldLink RX2 12 "CompassBias" "now" "LCompassBias$Samples;") (List.mem_of_getElem? (i := 2) rfl)) (fun _ h9 => h9) rfl dX2_layTheRound_6 ?_
  refine va_get (D := D) (ci := 1) (v := .int now.2.2.2.1) (C := RX1) (T := TX1) (N := 5) hx hb hts iX2_layTheRound_X1 hown hK.1 hP 1 rfl rfl 3 (by decide) (hts (.fieldLink RX2 50 "CompassBias$Samples" "taken" "I") (List.mem_of_getElem? (i := 3) rfl)) (fun _ h9 => h9) rfl dX2_layTheRound_9 ?_
  refine aft_v (wr := []) (run_V (As := [.ref hR, .int now.2.2.2.1]) (rest := []) C (c_X2_sumUp l D cI cZ h0 hR hn hi0 hi1 hR hT nx ny now kp r now.2.2.2.1) (cwV 2 hts gX2_layTheRound_X2_sumUp rfl rfl rfl (by decide +kernel) ⟨Nat.le_of_ble_eq_true rfl, Nat.le_of_ble_eq_true rfl⟩) hK (hP.sub (ws' := [(h0, .inr (2, [.ref hn, .ref hi0, .ref hi1, .int kp, .ref hR, .ref hT])), (hn, .inr (1, [.ref nx, .ref ny, .int now.2.2.1, .int now.2.2.2.1, .int now.2.2.2.2])), (nx, .inl (cI, 10, .inl now.1)), (ny, .inl (cI, 10, .inl now.2.1)), (hR, .inr (0, rdv r))]) [0, 1, 2, 3, 4] rfl) (hD.sub (ws' := [(h0, .inr (2, [.ref hn, .ref hi0, .ref hi1, .int kp, .ref hR, .ref hT])), (hn, .inr (1, [.ref nx, .ref ny, .int now.2.2.1, .int now.2.2.2.1, .int now.2.2.2.2])), (nx, .inl (cI, 10, .inl now.1)), (ny, .inl (cI, 10, .inl now.2.1)), (hR, .inr (0, rdv r))]) [0, 1, 2, 3, 4] (by decide) rfl) 0 2 rfl rfl rfl rfl hl.1 rfl (Nat.le_of_ble_eq_true rfl) dX2_layTheRound_12 (Nat.zero_le _) (Nat.zero_le _)) hP hD hS hA [0, 1, 2, 3, 4] [] rfl rfl (by decide) (by decide) (fun u9 H locs hw hP hD hS => ?_)
  subst hw
  have hP : va_P D classes [(h0, .inr (2, [.ref hn, .ref hi0, .ref hi1, .int kp, .ref hR, .ref hT])), (hn, .inr (1, [.ref nx, .ref ny, .int now.2.2.1, .int now.2.2.2.1, .int now.2.2.2.2])), (nx, .inl (cI, 10, .inl now.1)), (ny, .inl (cI, 10, .inl now.2.1)), (hR, .inr (0, rdv (F_X2_sumUp now r now.2.2.2.1)))] H := hP
  have hD : va_D A [(h0, .inr (2, [.ref hn, .ref hi0, .ref hi1, .int kp, .ref hR, .ref hT])), (hn, .inr (1, [.ref nx, .ref ny, .int now.2.2.1, .int now.2.2.2.1, .int now.2.2.2.2])), (nx, .inl (cI, 10, .inl now.1)), (ny, .inl (cI, 10, .inl now.2.1)), (hR, .inr (0, rdv (F_X2_sumUp now r now.2.2.2.1)))] := hD
  refine lv_aload_n hx hb dX2_layTheRound_15 rfl (lv_at hl 0 rfl) ?_
  refine va_get (D := D) (ci := 2) (v := .ref hR) (C := RX2) (T := TX2) (N := 6) hx hb hts iX2_layTheRound_X2 hown hK.1 hP 0 rfl rfl 4 (by decide) (hts (.fieldLink RX2 29 "CompassBias" "theRound" "LCompassBias$Round;") (List.mem_of_getElem? (i := 1) rfl)) (fun _ h9 => h9) rfl dX2_layTheRound_16 ?_
  refine aft_v (wr := [(h0, .inr (2, [.ref hn, .ref hi0, .ref hi1, .int kp, .ref hR, .ref hT])), (hn, .inr (1, [.ref nx, .ref ny, .int now.2.2.1, .int now.2.2.2.1, .int now.2.2.2.2])), (nx, .inl (cI, 10, .inl now.1)), (ny, .inl (cI, 10, .inl now.2.1))]) (run_V (As := []) (rest := []) C (c_X0_lay l D cI cZ hR (F_X2_sumUp now r now.2.2.2.1)) (cwV 0 hts gX2_layTheRound_X0_lay rfl rfl rfl (by decide +kernel) ⟨Nat.le_of_ble_eq_true rfl, Nat.le_of_ble_eq_true rfl⟩) hK (hP.sub (ws' := [(hR, .inr (0, rdv (F_X2_sumUp now r now.2.2.2.1)))]) [4] rfl) (hD.sub (ws' := [(hR, .inr (0, rdv (F_X2_sumUp now r now.2.2.2.1)))]) [4] (by decide) rfl) 0 0 rfl rfl rfl rfl hl.1 rfl (Nat.le_of_ble_eq_true rfl) dX2_layTheRound_19 (Nat.zero_le _) (Nat.zero_le _)) hP hD hS hA [4] [0, 1, 2, 3] rfl rfl (by decide) (by decide) (fun u9 H locs hw hP hD hS => ?_)
  subst hw
  have hP : va_P D classes [(h0, .inr (2, [.ref hn, .ref hi0, .ref hi1, .int kp, .ref hR, .ref hT])), (hn, .inr (1, [.ref nx, .ref ny, .int now.2.2.1, .int now.2.2.2.1, .int now.2.2.2.2])), (nx, .inl (cI, 10, .inl now.1)), (ny, .inl (cI, 10, .inl now.2.1)), (hR, .inr (0, rdv (F_X0_lay (F_X2_sumUp now r now.2.2.2.1))))] H := hP
  have hD : va_D A [(h0, .inr (2, [.ref hn, .ref hi0, .ref hi1, .int kp, .ref hR, .ref hT])), (hn, .inr (1, [.ref nx, .ref ny, .int now.2.2.1, .int now.2.2.2.1, .int now.2.2.2.2])), (nx, .inl (cI, 10, .inl now.1)), (ny, .inl (cI, 10, .inl now.2.1)), (hR, .inr (0, rdv (F_X0_lay (F_X2_sumUp now r now.2.2.2.1))))] := hD
  exact ret_v C (F_X0_lay (F_X2_sumUp now r now.2.2.2.1)) rfl hP hD hS dX2_layTheRound_22
def F_X2_sizeUpper (now : Sm) (r : Rd) (p0 : Int32) : Int64 := if (F_X2_isSample now p0) = 0 then (0) else (if 0 < (F_X0_offUpperAt r (now.1 p0.toNatClampNeg) (now.2.1 p0.toNatClampNeg)) then (F_X0_offUpperAt r (now.1 p0.toNatClampNeg) (now.2.1 p0.toNatClampNeg)) else -(F_X0_offUpperAt r (now.1 p0.toNatClampNeg) (now.2.1 p0.toNatClampNeg)))
theorem iX2_sizeUpper_X1 : ∀ w ∈ u_ws RX1 TX1 5, w ∈ wsX2_sizeUpper := fun _ h => List.mem_cons_of_mem _ (List.mem_append_left _ (List.mem_append_right _ (h)))
theorem iX2_sizeUpper_X2 : ∀ w ∈ u_ws RX2 TX2 6, w ∈ wsX2_sizeUpper := fun _ h => List.mem_cons_of_mem _ (List.mem_append_left _ (List.mem_append_left _ (List.mem_append_right _ (h))))
set_option maxHeartbeats 4000000 in
set_option maxRecDepth 100000 in
theorem c_X2_sizeUpper (l : Launch) (D : va_G) (cI cZ : ClassId) (h0 hr hn hi0 hi1 hR hT nx ny : Nat) (now : Sm) (kp : Int32) (r : Rd) (p0 : Int32) : CTl l yX2_sizeUpper wsX2_sizeUpper ({ frames := 2, cells := 0, slots := 0, locals := 43 } : Room) D cI cZ [.ref h0, .ref hr, .int p0] [(h0, .inr (2, [.ref hn, .ref hi0, .ref hi1, .int kp, .ref hR, .ref hT])), (hn, .inr (1, [.ref nx, .ref ny, .int now.2.2.1, .int now.2.2.2.1, .int now.2.2.2.2])), (nx, .inl (cI, 10, .inl now.1)), (ny, .inl (cI, 10, .inl now.2.1)), (hr, .inr (0, rdv r))] (S := Unit) (fun z9 _ => F_X2_sizeUpper now r p0 = z9) (fun _ => [(h0, .inr (2, [.ref hn, .ref hi0, .ref hi1, .int kp, .ref hR, .ref hT])), (hn, .inr (1, [.ref nx, .ref ny, .int now.2.2.1, .int now.2.2.2.1, .int now.2.2.2.2])), (nx, .inl (cI, 10, .inl now.1)), (ny, .inl (cI, 10, .inl now.2.1)), (hr, .inr (0, rdv r))]) := by
  refine enterM (cc := cX2_sizeUpper) (maxL := 3) (ret := (some .long)) (own := RX2) (Qc := fun A => va_Ql (S := Unit) (fun z9 _ => F_X2_sizeUpper now r p0 = z9) (PoB (S := Unit) D A (fun _ => [(h0, .inr (2, [.ref hn, .ref hi0, .ref hi1, .int kp, .ref hR, .ref hT])), (hn, .inr (1, [.ref nx, .ref ny, .int now.2.2.1, .int now.2.2.2.1, .int now.2.2.2.2])), (nx, .inl (cI, 10, .inl now.1)), (ny, .inl (cI, 10, .inl now.2.1)), (hr, .inr (0, rdv r))])) A) (by decide) rfl rfl (Nat.le_of_ble_eq_true rfl) ?_
  intro p e s m below meth c A ls C hK hA hP hD hS hl
  have hx := C.1
  have hb := C.2.1
  have hown := C.2.2.2.1
  have hts := C.2.2.2.2.1
  have _huse := hts
  have hl : lv_has ls 3 [(0, .ref h0), (1, .ref hr), (2, .int p0)] := hl
  refine lv_aload_n hx hb dX2_sizeUpper_0 rfl (lv_at hl 0 rfl) ?_
  refine lv_iload_n hx hb dX2_sizeUpper_1 rfl (lv_at hl 2 rfl) ?_
  refine aft_i (wr := [(hr, .inr (0, rdv r))]) (run_V (As := [.int p0]) (rest := []) C (c_X2_isSample l D cI cZ h0 hn hi0 hi1 hR hT nx ny now kp p0) (cwV 1 hts gX2_sizeUpper_X2_isSample rfl rfl rfl (by decide +kernel) ⟨Nat.le_of_ble_eq_true rfl, Nat.le_of_ble_eq_true rfl⟩) hK (hP.sub (ws' := [(h0, .inr (2, [.ref hn, .ref hi0, .ref hi1, .int kp, .ref hR, .ref hT])), (hn, .inr (1, [.ref nx, .ref ny, .int now.2.2.1, .int now.2.2.2.1, .int now.2.2.2.2])), (nx, .inl (cI, 10, .inl now.1)), (ny, .inl (cI, 10, .inl now.2.1))]) [0, 1, 2, 3] rfl) (hD.sub (ws' := [(h0, .inr (2, [.ref hn, .ref hi0, .ref hi1, .int kp, .ref hR, .ref hT])), (hn, .inr (1, [.ref nx, .ref ny, .int now.2.2.1, .int now.2.2.2.1, .int now.2.2.2.2])), (nx, .inl (cI, 10, .inl now.1)), (ny, .inl (cI, 10, .inl now.2.1))]) [0, 1, 2, 3] (by decide) rfl) 0 2 rfl rfl rfl rfl hl.1 rfl (Nat.le_of_ble_eq_true rfl) dX2_sizeUpper_2 (Nat.zero_le _) (Nat.zero_le _)) hP hD hS hA [0, 1, 2, 3] [4] rfl rfl (by decide) (by decide) (fun z9 u9 H locs hw hP hD hS => ?_)
  subst hw
  have hP : va_P D classes [(hr, .inr (0, rdv r)), (h0, .inr (2, [.ref hn, .ref hi0, .ref hi1, .int kp, .ref hR, .ref hT])), (hn, .inr (1, [.ref nx, .ref ny, .int now.2.2.1, .int now.2.2.2.1, .int now.2.2.2.2])), (nx, .inl (cI, 10, .inl now.1)), (ny, .inl (cI, 10, .inl now.2.1))] H := hP
  have hD : va_D A [(hr, .inr (0, rdv r)), (h0, .inr (2, [.ref hn, .ref hi0, .ref hi1, .int kp, .ref hR, .ref hT])), (hn, .inr (1, [.ref nx, .ref ny, .int now.2.2.1, .int now.2.2.2.1, .int now.2.2.2.2])), (nx, .inl (cI, 10, .inl now.1)), (ny, .inl (cI, 10, .inl now.2.1))] := hD
  refine lv_if_ne (tgt := 10) hx hb dX2_sizeUpper_5 (by decide) (fun c_5 => ?_) (fun c_5 => ?_)
  · refine lv_aload_n hx hb dX2_sizeUpper_10 rfl (lv_at hl 1 rfl) ?_
    refine lv_aload_n hx hb dX2_sizeUpper_11 rfl (lv_at hl 0 rfl) ?_
    refine va_get (D := D) (ci := 2) (v := .ref hn) (C := RX2) (T := TX2) (N := 6) hx hb hts iX2_sizeUpper_X2 hown hK.1 hP 1 rfl rfl 0 (by decide) (hts (.fieldLink RX2 12 "CompassBias" "now" "LCompassBias$Samples;") (List.mem_of_getElem? (i := 1) rfl)) (fun _ h9 => h9) rfl dX2_sizeUpper_12 ?_
    refine va_get (D := D) (ci := 1) (v := .ref nx) (C := RX1) (T := TX1) (N := 5) hx hb hts iX2_sizeUpper_X1 hown hK.1 hP 2 rfl rfl 0 (by decide) (hts (.fieldLink RX2 43 "CompassBias$Samples" "xs" "[I") (List.mem_of_getElem? (i := 2) rfl)) (fun _ h9 => h9) rfl dX2_sizeUpper_15 ?_
    refine lv_iload_n hx hb dX2_sizeUpper_18 rfl (lv_at hl 2 rfl) ?_
    refine va_iald hx hb hK.1 hP 3 0 rfl rfl (samp_in c_5) dX2_sizeUpper_19 ?_
    refine lv_aload_n hx hb dX2_sizeUpper_20 rfl (lv_at hl 0 rfl) ?_
    refine va_get (D := D) (ci := 2) (v := .ref hn) (C := RX2) (T := TX2) (N := 6) hx hb hts iX2_sizeUpper_X2 hown hK.1 hP 1 rfl rfl 0 (by decide) (hts (.fieldLink RX2 12 "CompassBias" "now" "LCompassBias$Samples;") (List.mem_of_getElem? (i := 1) rfl)) (fun _ h9 => h9) rfl dX2_sizeUpper_21 ?_
    refine va_get (D := D) (ci := 1) (v := .ref ny) (C := RX1) (T := TX1) (N := 5) hx hb hts iX2_sizeUpper_X1 hown hK.1 hP 2 rfl rfl 1 (by decide) (hts (.fieldLink RX2 47 "CompassBias$Samples" "ys" "[I") (List.mem_of_getElem? (i := 3) rfl)) (fun _ h9 => h9) rfl dX2_sizeUpper_24 ?_
    refine lv_iload_n hx hb dX2_sizeUpper_27 rfl (lv_at hl 2 rfl) ?_
    refine va_iald hx hb hK.1 hP 4 0 rfl rfl (samp_in c_5) dX2_sizeUpper_28 ?_
    refine aft_l (wr := [(h0, .inr (2, [.ref hn, .ref hi0, .ref hi1, .int kp, .ref hR, .ref hT])), (hn, .inr (1, [.ref nx, .ref ny, .int now.2.2.1, .int now.2.2.2.1, .int now.2.2.2.2])), (nx, .inl (cI, 10, .inl now.1)), (ny, .inl (cI, 10, .inl now.2.1))]) (run_V (As := [.int (now.1 p0.toNatClampNeg), .int (now.2.1 p0.toNatClampNeg)]) (rest := []) C (c_X0_offUpperAt l D cI cZ hr r (now.1 p0.toNatClampNeg) (now.2.1 p0.toNatClampNeg)) (cwV 2 hts gX2_sizeUpper_X0_offUpperAt rfl rfl rfl (by decide +kernel) ⟨Nat.le_of_ble_eq_true rfl, Nat.le_of_ble_eq_true rfl⟩) hK (hP.sub (ws' := [(hr, .inr (0, rdv r))]) [0] rfl) (hD.sub (ws' := [(hr, .inr (0, rdv r))]) [0] (by decide) rfl) 0 0 rfl rfl rfl rfl hl.1 rfl (Nat.le_of_ble_eq_true rfl) dX2_sizeUpper_29 (Nat.zero_le _) (Nat.zero_le _)) hP hD hS hA [0] [1, 2, 3, 4] rfl rfl (by decide) (by decide) (fun z9 u9 H locs hw hP hD hS => ?_)
    subst hw
    have hP : va_P D classes [(h0, .inr (2, [.ref hn, .ref hi0, .ref hi1, .int kp, .ref hR, .ref hT])), (hn, .inr (1, [.ref nx, .ref ny, .int now.2.2.1, .int now.2.2.2.1, .int now.2.2.2.2])), (nx, .inl (cI, 10, .inl now.1)), (ny, .inl (cI, 10, .inl now.2.1)), (hr, .inr (0, rdv r))] H := hP
    have hD : va_D A [(h0, .inr (2, [.ref hn, .ref hi0, .ref hi1, .int kp, .ref hR, .ref hT])), (hn, .inr (1, [.ref nx, .ref ny, .int now.2.2.1, .int now.2.2.2.1, .int now.2.2.2.2])), (nx, .inl (cI, 10, .inl now.1)), (ny, .inl (cI, 10, .inl now.2.1)), (hr, .inr (0, rdv r))] := hD
    refine va_mabs_long hx hb (by rw [C.2.2.1]; exact hl.1.symm) hown (hts (.methodLink RX2 153 Lib.MathLoose.abs_long.x) (List.mem_of_getElem? (i := 4) rfl)) (hts (.static Lib.MathLoose.abs_long.x) (List.mem_of_getElem? (i := 5) rfl)) (hts (.initialized "java/lang/Math") (List.mem_of_getElem? (i := 6) rfl)) (hts (.code Lib.MathLoose.abs_long.x Lib.MathLoose.abs_long.code 2 (some .long)) (List.mem_of_getElem? (i := 7) rfl)) (Nat.le_of_ble_eq_true rfl) (Nat.le_of_ble_eq_true rfl) (Nat.zero_le _) (Nat.zero_le _) dX2_sizeUpper_32 ?_
    exact ret_l C () (if_neg c_5) hP hD hS dX2_sizeUpper_35
  · refine lv_lconst (v := 0) hx hb dX2_sizeUpper_8 (by decide) ?_
    exact ret_l C () (if_pos c_5) (hP.sub (ws' := [(h0, .inr (2, [.ref hn, .ref hi0, .ref hi1, .int kp, .ref hR, .ref hT])), (hn, .inr (1, [.ref nx, .ref ny, .int now.2.2.1, .int now.2.2.2.1, .int now.2.2.2.2])), (nx, .inl (cI, 10, .inl now.1)), (ny, .inl (cI, 10, .inl now.2.1)), (hr, .inr (0, rdv r))]) [1, 2, 3, 4, 0] rfl) (hD.sub (ws' := [(h0, .inr (2, [.ref hn, .ref hi0, .ref hi1, .int kp, .ref hR, .ref hT])), (hn, .inr (1, [.ref nx, .ref ny, .int now.2.2.1, .int now.2.2.2.1, .int now.2.2.2.2])), (nx, .inl (cI, 10, .inl now.1)), (ny, .inl (cI, 10, .inl now.2.1)), (hr, .inr (0, rdv r))]) [1, 2, 3, 4, 0] (by decide) rfl) hS dX2_sizeUpper_9
def L_X2_worstSample_9 (now : Sm) (r : Rd) : Nat → Int32 → Int64 → Int32 → Int32
  | 0, _, _, _ => 0
  | n + 1, w, g, i => if 10 ≤ i then (w) else (if (F_X2_isIn now.2.2.2.1 i) = 0 then (L_X2_worstSample_9 now r n w g (i + 1)) else (if (lg_cmp (F_X2_sizeUpper now r i) g) ≤ 0 then (L_X2_worstSample_9 now r n w g (i + 1)) else (L_X2_worstSample_9 now r n i (F_X2_sizeUpper now r i) (i + 1))))
def F_X2_worstSample (now : Sm) (r : Rd) : Int32 := L_X2_worstSample_9 now r 11 0 (-1) 0
theorem iX2_worstSample_X1 : ∀ w ∈ u_ws RX1 TX1 5, w ∈ wsX2_worstSample := fun _ h => List.mem_cons_of_mem _ (List.mem_append_left _ (List.mem_append_right _ (h)))
theorem iX2_worstSample_X2 : ∀ w ∈ u_ws RX2 TX2 6, w ∈ wsX2_worstSample := fun _ h => List.mem_cons_of_mem _ (List.mem_append_left _ (List.mem_append_left _ (List.mem_append_right _ (h))))
set_option maxHeartbeats 4000000 in
set_option maxRecDepth 100000 in
theorem c_X2_worstSample (l : Launch) (D : va_G) (cI cZ : ClassId) (h0 hn hi0 hi1 hR hT nx ny : Nat) (now : Sm) (kp : Int32) (r : Rd) : CTi l yX2_worstSample wsX2_worstSample ({ frames := 3, cells := 0, slots := 0, locals := 65 } : Room) D cI cZ [.ref h0] [(h0, .inr (2, [.ref hn, .ref hi0, .ref hi1, .int kp, .ref hR, .ref hT])), (hn, .inr (1, [.ref nx, .ref ny, .int now.2.2.1, .int now.2.2.2.1, .int now.2.2.2.2])), (nx, .inl (cI, 10, .inl now.1)), (ny, .inl (cI, 10, .inl now.2.1)), (hR, .inr (0, rdv r))] (S := Unit) (fun z9 _ => F_X2_worstSample now r = z9) (fun _ => [(h0, .inr (2, [.ref hn, .ref hi0, .ref hi1, .int kp, .ref hR, .ref hT])), (hn, .inr (1, [.ref nx, .ref ny, .int now.2.2.1, .int now.2.2.2.1, .int now.2.2.2.2])), (nx, .inl (cI, 10, .inl now.1)), (ny, .inl (cI, 10, .inl now.2.1)), (hR, .inr (0, rdv r))]) := by
  refine enterM (cc := cX2_worstSample) (maxL := 7) (ret := (some .int)) (own := RX2) (Qc := fun A => va_Qi (S := Unit) (fun z9 _ => F_X2_worstSample now r = z9) (PoB (S := Unit) D A (fun _ => [(h0, .inr (2, [.ref hn, .ref hi0, .ref hi1, .int kp, .ref hR, .ref hT])), (hn, .inr (1, [.ref nx, .ref ny, .int now.2.2.1, .int now.2.2.2.1, .int now.2.2.2.2])), (nx, .inl (cI, 10, .inl now.1)), (ny, .inl (cI, 10, .inl now.2.1)), (hR, .inr (0, rdv r))])) A) (by decide) rfl rfl (Nat.le_of_ble_eq_true rfl) ?_
  intro p e s m below meth c A ls C hK hA hP hD hS hl
  have hx := C.1
  have hb := C.2.1
  have hown := C.2.2.2.1
  have hts := C.2.2.2.2.1
  have _huse := hts
  have K9 : ∀ (n : Nat) (k : Nat) (w : Int32) (g : Int64) (i : Int32) (_ : i.toInt = (k : Int)) (_ : k ≤ 10) (_ : 10 < k + n) (X : Int32) (_ : X = L_X2_worstSample_9 now r n w g i) (H : Heap) (locs : List Loc) (_ : va_P D classes [(h0, .inr (2, [.ref hn, .ref hi0, .ref hi1, .int kp, .ref hR, .ref hT])), (hn, .inr (1, [.ref nx, .ref ny, .int now.2.2.1, .int now.2.2.2.1, .int now.2.2.2.2])), (nx, .inl (cI, 10, .inl now.1)), (ny, .inl (cI, 10, .inl now.2.1)), (hR, .inr (0, rdv r))] H) (_ : va_D A [(h0, .inr (2, [.ref hn, .ref hi0, .ref hi1, .int kp, .ref hR, .ref hT])), (hn, .inr (1, [.ref nx, .ref ny, .int now.2.2.1, .int now.2.2.2.1, .int now.2.2.2.2])), (nx, .inl (cI, 10, .inl now.1)), (ny, .inl (cI, 10, .inl now.2.1)), (hR, .inr (0, rdv r))]) (_ : va_S A s.heap H locs) (ls : Array Slot) (_ : lv_has ls 7 [(0, .ref h0), (1, .int w), (2, .long g), (4, .int i)]), W p l e ({ frames := 3, cells := 0, slots := 0, locals := 65 } : Room) s m [.ref h0].toArray below meth c H locs 0 0 (MQ below (va_Qi (S := Unit) (fun z9 _ => X = z9) (PoB (S := Unit) D A (fun _ => [(h0, .inr (2, [.ref hn, .ref hi0, .ref hi1, .int kp, .ref hR, .ref hT])), (hn, .inr (1, [.ref nx, .ref ny, .int now.2.2.1, .int now.2.2.2.1, .int now.2.2.2.2])), (nx, .inl (cI, 10, .inl now.1)), (ny, .inl (cI, 10, .inl now.2.1)), (hR, .inr (0, rdv r))])) A) [.ref h0].toArray s 0 0 A) (F0 m 9 ls []) := by
    intro n
    induction n with
    | zero =>
      intro k w g i hi hk hfu X hX H locs hP hD hS ls hl
      exact absurd hfu (by omega)
    | succ n ih =>
      intro k w g i hi hk hfu X hX H locs hP hD hS ls hl
      refine lv_iload hx hb dX2_worstSample_9 (lv_at hl 3 rfl) ?_
      refine lv_bipush (v := 10) hx hb dX2_worstSample_11 (by decide) ?_
      refine lv_icmp_ge (tgt := 62) hx hb dX2_worstSample_13 (by decide) (fun c_13 => ?_) (fun c_13 => ?_)
      · refine lv_iload_n hx hb dX2_worstSample_62 rfl (lv_at hl 1 rfl) ?_
        exact ret_i C () (hX.trans ((if_pos c_13))) hP hD hS dX2_worstSample_63
      · refine lv_aload_n hx hb dX2_worstSample_16 rfl (lv_at hl 0 rfl) ?_
        refine va_get (D := D) (ci := 2) (v := .ref hn) (C := RX2) (T := TX2) (N := 6) hx hb hts iX2_worstSample_X2 hown hK.1 hP 0 rfl rfl 0 (by decide) (hts (.fieldLink RX2 12 "CompassBias" "now" "LCompassBias$Samples;") (List.mem_of_getElem? (i := 2) rfl)) (fun _ h9 => h9) rfl dX2_worstSample_17 ?_
        refine va_get (D := D) (ci := 1) (v := .int now.2.2.2.1) (C := RX1) (T := TX1) (N := 5) hx hb hts iX2_worstSample_X1 hown hK.1 hP 1 rfl rfl 3 (by decide) (hts (.fieldLink RX2 50 "CompassBias$Samples" "taken" "I") (List.mem_of_getElem? (i := 3) rfl)) (fun _ h9 => h9) rfl dX2_worstSample_20 ?_
        refine lv_iload hx hb dX2_worstSample_23 (lv_at hl 3 rfl) ?_
        refine aft_i (wr := [(h0, .inr (2, [.ref hn, .ref hi0, .ref hi1, .int kp, .ref hR, .ref hT])), (hn, .inr (1, [.ref nx, .ref ny, .int now.2.2.1, .int now.2.2.2.1, .int now.2.2.2.2])), (nx, .inl (cI, 10, .inl now.1)), (ny, .inl (cI, 10, .inl now.2.1)), (hR, .inr (0, rdv r))]) (run_S (As := [.int now.2.2.2.1, .int i]) (rest := []) C (c_X2_isIn l D cI cZ now.2.2.2.1 i) (va_cwS 2 hts gX2_worstSample_X2_isIn rfl rfl rfl (by decide +kernel) ⟨Nat.le_of_ble_eq_true rfl, Nat.le_of_ble_eq_true rfl⟩) hK (hP.sub (ws' := []) [] rfl) (hD.sub (ws' := []) [] (by decide) rfl) rfl hl.1 rfl (Nat.le_of_ble_eq_true rfl) dX2_worstSample_25 (Nat.zero_le _) (Nat.zero_le _)) hP hD hS hA [] [0, 1, 2, 3, 4] rfl rfl (by decide) (by decide) (fun z9 u9 H locs hw hP hD hS => ?_)
        subst hw
        have hP : va_P D classes [(h0, .inr (2, [.ref hn, .ref hi0, .ref hi1, .int kp, .ref hR, .ref hT])), (hn, .inr (1, [.ref nx, .ref ny, .int now.2.2.1, .int now.2.2.2.1, .int now.2.2.2.2])), (nx, .inl (cI, 10, .inl now.1)), (ny, .inl (cI, 10, .inl now.2.1)), (hR, .inr (0, rdv r))] H := hP
        have hD : va_D A [(h0, .inr (2, [.ref hn, .ref hi0, .ref hi1, .int kp, .ref hR, .ref hT])), (hn, .inr (1, [.ref nx, .ref ny, .int now.2.2.1, .int now.2.2.2.1, .int now.2.2.2.2])), (nx, .inl (cI, 10, .inl now.1)), (ny, .inl (cI, 10, .inl now.2.1)), (hR, .inr (0, rdv r))] := hD
        refine lv_if_eq (tgt := 56) hx hb dX2_worstSample_28 (by decide) (fun c_28 => ?_) (fun c_28 => ?_)
        · refine lv_iinc (v := i + 1) (lv' := [(4, .int (i + 1)), (0, .ref h0), (1, .int w), (2, .long g)]) hx hb dX2_worstSample_56 hl (k := 3) rfl rfl (by decide) rfl (fun ls hl => ?_)
          refine lv_goto (tgt := 9) hx hb dX2_worstSample_59 (by decide) ?_
          exact ih (k + 1) w g (i + 1) (i_succ hi (by omega)) (i_lt10 hi c_13) (by omega) X (hX.trans ((if_neg c_13).trans ((if_pos c_28)))) _ _ hP hD hS _ (lv_sub hl [1, 2, 3, 0] rfl)
        · refine lv_aload_n hx hb dX2_worstSample_31 rfl (lv_at hl 0 rfl) ?_
          refine lv_aload_n hx hb dX2_worstSample_32 rfl (lv_at hl 0 rfl) ?_
          refine va_get (D := D) (ci := 2) (v := .ref hR) (C := RX2) (T := TX2) (N := 6) hx hb hts iX2_worstSample_X2 hown hK.1 hP 0 rfl rfl 4 (by decide) (hts (.fieldLink RX2 29 "CompassBias" "theRound" "LCompassBias$Round;") (List.mem_of_getElem? (i := 4) rfl)) (fun _ h9 => h9) rfl dX2_worstSample_33 ?_
          refine lv_iload hx hb dX2_worstSample_36 (lv_at hl 3 rfl) ?_
          refine aft_l (wr := []) (run_V (As := [.ref hR, .int i]) (rest := []) C (c_X2_sizeUpper l D cI cZ h0 hR hn hi0 hi1 hR hT nx ny now kp r i) (cwV 2 hts gX2_worstSample_X2_sizeUpper rfl rfl rfl (by decide +kernel) ⟨Nat.le_of_ble_eq_true rfl, Nat.le_of_ble_eq_true rfl⟩) hK (hP.sub (ws' := [(h0, .inr (2, [.ref hn, .ref hi0, .ref hi1, .int kp, .ref hR, .ref hT])), (hn, .inr (1, [.ref nx, .ref ny, .int now.2.2.1, .int now.2.2.2.1, .int now.2.2.2.2])), (nx, .inl (cI, 10, .inl now.1)), (ny, .inl (cI, 10, .inl now.2.1)), (hR, .inr (0, rdv r))]) [0, 1, 2, 3, 4] rfl) (hD.sub (ws' := [(h0, .inr (2, [.ref hn, .ref hi0, .ref hi1, .int kp, .ref hR, .ref hT])), (hn, .inr (1, [.ref nx, .ref ny, .int now.2.2.1, .int now.2.2.2.1, .int now.2.2.2.2])), (nx, .inl (cI, 10, .inl now.1)), (ny, .inl (cI, 10, .inl now.2.1)), (hR, .inr (0, rdv r))]) [0, 1, 2, 3, 4] (by decide) rfl) 0 2 rfl rfl rfl rfl hl.1 rfl (Nat.le_of_ble_eq_true rfl) dX2_worstSample_38 (Nat.zero_le _) (Nat.zero_le _)) hP hD hS hA [0, 1, 2, 3, 4] [] rfl rfl (by decide) (by decide) (fun z9 u9 H locs hw hP hD hS => ?_)
          subst hw
          have hP : va_P D classes [(h0, .inr (2, [.ref hn, .ref hi0, .ref hi1, .int kp, .ref hR, .ref hT])), (hn, .inr (1, [.ref nx, .ref ny, .int now.2.2.1, .int now.2.2.2.1, .int now.2.2.2.2])), (nx, .inl (cI, 10, .inl now.1)), (ny, .inl (cI, 10, .inl now.2.1)), (hR, .inr (0, rdv r))] H := hP
          have hD : va_D A [(h0, .inr (2, [.ref hn, .ref hi0, .ref hi1, .int kp, .ref hR, .ref hT])), (hn, .inr (1, [.ref nx, .ref ny, .int now.2.2.1, .int now.2.2.2.1, .int now.2.2.2.2])), (nx, .inl (cI, 10, .inl now.1)), (ny, .inl (cI, 10, .inl now.2.1)), (hR, .inr (0, rdv r))] := hD
          refine lv_lstore (lv' := [(5, .long (F_X2_sizeUpper now r i)), (0, .ref h0), (1, .int w), (2, .long g), (4, .int i)]) hx hb dX2_worstSample_41 hl (by decide) rfl (fun ls hl => ?_)
          refine lv_lload hx hb dX2_worstSample_43 (lv_at hl 0 rfl) ?_
          refine lv_lload_n hx hb dX2_worstSample_45 rfl (lv_at hl 3 rfl) ?_
          refine W.lcmp hx hb dX2_worstSample_46 ?_
          refine lv_if_le (tgt := 56) hx hb dX2_worstSample_47 (by decide) (fun c_47 => ?_) (fun c_47 => ?_)
          · refine lv_iinc (v := i + 1) (lv' := [(4, .int (i + 1)), (5, .long (F_X2_sizeUpper now r i)), (0, .ref h0), (1, .int w), (2, .long g)]) hx hb dX2_worstSample_56 hl (k := 4) rfl rfl (by decide) rfl (fun ls hl => ?_)
            refine lv_goto (tgt := 9) hx hb dX2_worstSample_59 (by decide) ?_
            exact ih (k + 1) w g (i + 1) (i_succ hi (by omega)) (i_lt10 hi c_13) (by omega) X (hX.trans ((if_neg c_13).trans ((if_neg c_28).trans ((if_pos c_47))))) _ _ hP hD hS _ (lv_sub hl [2, 3, 4, 0] rfl)
          · refine lv_lload hx hb dX2_worstSample_50 (lv_at hl 0 rfl) ?_
            refine lv_lstore_n (lv' := [(2, .long (F_X2_sizeUpper now r i)), (5, .long (F_X2_sizeUpper now r i)), (0, .ref h0), (1, .int w), (4, .int i)]) hx hb dX2_worstSample_52 rfl hl (by decide) rfl (fun ls hl => ?_)
            refine lv_iload hx hb dX2_worstSample_53 (lv_at hl 4 rfl) ?_
            refine lv_istore_n (lv' := [(1, .int i), (2, .long (F_X2_sizeUpper now r i)), (5, .long (F_X2_sizeUpper now r i)), (0, .ref h0), (4, .int i)]) hx hb dX2_worstSample_55 rfl hl (by decide) rfl (fun ls hl => ?_)
            refine lv_iinc (v := i + 1) (lv' := [(4, .int (i + 1)), (1, .int i), (2, .long (F_X2_sizeUpper now r i)), (5, .long (F_X2_sizeUpper now r i)), (0, .ref h0)]) hx hb dX2_worstSample_56 hl (k := 4) rfl rfl (by decide) rfl (fun ls hl => ?_)
            refine lv_goto (tgt := 9) hx hb dX2_worstSample_59 (by decide) ?_
            exact ih (k + 1) i (F_X2_sizeUpper now r i) (i + 1) (i_succ hi (by omega)) (i_lt10 hi c_13) (by omega) X (hX.trans ((if_neg c_13).trans ((if_neg c_28).trans ((if_neg c_47))))) _ _ hP hD hS _ (lv_sub hl [4, 1, 2, 0] rfl)
  have hl : lv_has ls 7 [(0, .ref h0)] := hl
  refine lv_iconst (v := 0) hx hb dX2_worstSample_0 (by decide) ?_
  refine lv_istore_n (lv' := [(1, .int 0), (0, .ref h0)]) hx hb dX2_worstSample_1 rfl hl (by decide) rfl (fun ls hl => ?_)
  refine lv_ldc2 (v := (-1)) hx hb hown (hts (.constantLong RX2 173 (-1)) (List.mem_of_getElem? (i := 1) rfl)) dX2_worstSample_2 ?_
  refine lv_lstore_n (lv' := [(2, .long (-1)), (1, .int 0), (0, .ref h0)]) hx hb dX2_worstSample_5 rfl hl (by decide) rfl (fun ls hl => ?_)
  refine lv_iconst (v := 0) hx hb dX2_worstSample_6 (by decide) ?_
  refine lv_istore (lv' := [(4, .int 0), (2, .long (-1)), (1, .int 0), (0, .ref h0)]) hx hb dX2_worstSample_7 hl (by decide) rfl (fun ls hl => ?_)
  exact K9 11 0 0 (-1) 0 rfl (by omega) (by omega) (F_X2_worstSample now r) rfl _ _ hP hD hS _ (lv_sub hl [3, 2, 1, 0] rfl)
def L_X2_coverBy_4 (now : Sm) (r : Rd) : Nat → Int32 → Int32 → Int32
  | 0, _, _ => 0
  | n + 1, v, i => if 10 ≤ i then (v) else (if (F_X2_isIn now.2.2.2.1 i) = 0 then (L_X2_coverBy_4 now r n v (i + 1)) else (L_X2_coverBy_4 now r n (v ||| (F_X2_setOfEighth (F_X0_eighthAt r (now.1 i.toNatClampNeg) (now.2.1 i.toNatClampNeg)))) (i + 1)))
def F_X2_coverBy (now : Sm) (r : Rd) : Int32 := L_X2_coverBy_4 now r 11 0 0
theorem iX2_coverBy_X1 : ∀ w ∈ u_ws RX1 TX1 5, w ∈ wsX2_coverBy := fun _ h => List.mem_cons_of_mem _ (List.mem_append_left _ (List.mem_append_right _ (h)))
theorem iX2_coverBy_X2 : ∀ w ∈ u_ws RX2 TX2 6, w ∈ wsX2_coverBy := fun _ h => List.mem_cons_of_mem _ (List.mem_append_left _ (List.mem_append_left _ (List.mem_append_right _ (h))))
set_option maxHeartbeats 4000000 in
set_option maxRecDepth 100000 in
theorem c_X2_coverBy (l : Launch) (D : va_G) (cI cZ : ClassId) (h0 hr hn hi0 hi1 hR hT nx ny : Nat) (now : Sm) (kp : Int32) (r : Rd) : CTi l yX2_coverBy wsX2_coverBy ({ frames := 2, cells := 0, slots := 0, locals := 45 } : Room) D cI cZ [.ref h0, .ref hr] [(h0, .inr (2, [.ref hn, .ref hi0, .ref hi1, .int kp, .ref hR, .ref hT])), (hn, .inr (1, [.ref nx, .ref ny, .int now.2.2.1, .int now.2.2.2.1, .int now.2.2.2.2])), (nx, .inl (cI, 10, .inl now.1)), (ny, .inl (cI, 10, .inl now.2.1)), (hr, .inr (0, rdv r))] (S := Unit) (fun z9 _ => F_X2_coverBy now r = z9) (fun _ => [(h0, .inr (2, [.ref hn, .ref hi0, .ref hi1, .int kp, .ref hR, .ref hT])), (hn, .inr (1, [.ref nx, .ref ny, .int now.2.2.1, .int now.2.2.2.1, .int now.2.2.2.2])), (nx, .inl (cI, 10, .inl now.1)), (ny, .inl (cI, 10, .inl now.2.1)), (hr, .inr (0, rdv r))]) := by
  refine enterM (cc := cX2_coverBy) (maxL := 4) (ret := (some .int)) (own := RX2) (Qc := fun A => va_Qi (S := Unit) (fun z9 _ => F_X2_coverBy now r = z9) (PoB (S := Unit) D A (fun _ => [(h0, .inr (2, [.ref hn, .ref hi0, .ref hi1, .int kp, .ref hR, .ref hT])), (hn, .inr (1, [.ref nx, .ref ny, .int now.2.2.1, .int now.2.2.2.1, .int now.2.2.2.2])), (nx, .inl (cI, 10, .inl now.1)), (ny, .inl (cI, 10, .inl now.2.1)), (hr, .inr (0, rdv r))])) A) (by decide) rfl rfl (Nat.le_of_ble_eq_true rfl) ?_
  intro p e s m below meth c A ls C hK hA hP hD hS hl
  have hx := C.1
  have hb := C.2.1
  have hown := C.2.2.2.1
  have hts := C.2.2.2.2.1
  have _huse := hts
  have K4 : ∀ (n : Nat) (k : Nat) (v : Int32) (i : Int32) (_ : i.toInt = (k : Int)) (_ : k ≤ 10) (_ : 10 < k + n) (X : Int32) (_ : X = L_X2_coverBy_4 now r n v i) (H : Heap) (locs : List Loc) (_ : va_P D classes [(h0, .inr (2, [.ref hn, .ref hi0, .ref hi1, .int kp, .ref hR, .ref hT])), (hn, .inr (1, [.ref nx, .ref ny, .int now.2.2.1, .int now.2.2.2.1, .int now.2.2.2.2])), (nx, .inl (cI, 10, .inl now.1)), (ny, .inl (cI, 10, .inl now.2.1)), (hr, .inr (0, rdv r))] H) (_ : va_D A [(h0, .inr (2, [.ref hn, .ref hi0, .ref hi1, .int kp, .ref hR, .ref hT])), (hn, .inr (1, [.ref nx, .ref ny, .int now.2.2.1, .int now.2.2.2.1, .int now.2.2.2.2])), (nx, .inl (cI, 10, .inl now.1)), (ny, .inl (cI, 10, .inl now.2.1)), (hr, .inr (0, rdv r))]) (_ : va_S A s.heap H locs) (ls : Array Slot) (_ : lv_has ls 4 [(0, .ref h0), (1, .ref hr), (2, .int v), (3, .int i)]), W p l e ({ frames := 2, cells := 0, slots := 0, locals := 45 } : Room) s m [.ref h0, .ref hr].toArray below meth c H locs 0 0 (MQ below (va_Qi (S := Unit) (fun z9 _ => X = z9) (PoB (S := Unit) D A (fun _ => [(h0, .inr (2, [.ref hn, .ref hi0, .ref hi1, .int kp, .ref hR, .ref hT])), (hn, .inr (1, [.ref nx, .ref ny, .int now.2.2.1, .int now.2.2.2.1, .int now.2.2.2.2])), (nx, .inl (cI, 10, .inl now.1)), (ny, .inl (cI, 10, .inl now.2.1)), (hr, .inr (0, rdv r))])) A) [.ref h0, .ref hr].toArray s 0 0 A) (F0 m 4 ls []) := by
    intro n
    induction n with
    | zero =>
      intro k v i hi hk hfu X hX H locs hP hD hS ls hl
      exact absurd hfu (by omega)
    | succ n ih =>
      intro k v i hi hk hfu X hX H locs hP hD hS ls hl
      refine lv_iload_n hx hb dX2_coverBy_4 rfl (lv_at hl 3 rfl) ?_
      refine lv_bipush (v := 10) hx hb dX2_coverBy_5 (by decide) ?_
      refine lv_icmp_ge (tgt := 58) hx hb dX2_coverBy_7 (by decide) (fun c_7 => ?_) (fun c_7 => ?_)
      · refine lv_iload_n hx hb dX2_coverBy_58 rfl (lv_at hl 2 rfl) ?_
        exact ret_i C () (hX.trans ((if_pos c_7))) hP hD hS dX2_coverBy_59
      · refine lv_aload_n hx hb dX2_coverBy_10 rfl (lv_at hl 0 rfl) ?_
        refine va_get (D := D) (ci := 2) (v := .ref hn) (C := RX2) (T := TX2) (N := 6) hx hb hts iX2_coverBy_X2 hown hK.1 hP 0 rfl rfl 0 (by decide) (hts (.fieldLink RX2 12 "CompassBias" "now" "LCompassBias$Samples;") (List.mem_of_getElem? (i := 1) rfl)) (fun _ h9 => h9) rfl dX2_coverBy_11 ?_
        refine va_get (D := D) (ci := 1) (v := .int now.2.2.2.1) (C := RX1) (T := TX1) (N := 5) hx hb hts iX2_coverBy_X1 hown hK.1 hP 1 rfl rfl 3 (by decide) (hts (.fieldLink RX2 50 "CompassBias$Samples" "taken" "I") (List.mem_of_getElem? (i := 2) rfl)) (fun _ h9 => h9) rfl dX2_coverBy_14 ?_
        refine lv_iload_n hx hb dX2_coverBy_17 rfl (lv_at hl 3 rfl) ?_
        refine aft_i (wr := [(h0, .inr (2, [.ref hn, .ref hi0, .ref hi1, .int kp, .ref hR, .ref hT])), (hn, .inr (1, [.ref nx, .ref ny, .int now.2.2.1, .int now.2.2.2.1, .int now.2.2.2.2])), (nx, .inl (cI, 10, .inl now.1)), (ny, .inl (cI, 10, .inl now.2.1)), (hr, .inr (0, rdv r))]) (run_S (As := [.int now.2.2.2.1, .int i]) (rest := []) C (c_X2_isIn l D cI cZ now.2.2.2.1 i) (va_cwS 2 hts gX2_coverBy_X2_isIn rfl rfl rfl (by decide +kernel) ⟨Nat.le_of_ble_eq_true rfl, Nat.le_of_ble_eq_true rfl⟩) hK (hP.sub (ws' := []) [] rfl) (hD.sub (ws' := []) [] (by decide) rfl) rfl hl.1 rfl (Nat.le_of_ble_eq_true rfl) dX2_coverBy_18 (Nat.zero_le _) (Nat.zero_le _)) hP hD hS hA [] [0, 1, 2, 3, 4] rfl rfl (by decide) (by decide) (fun z9 u9 H locs hw hP hD hS => ?_)
        subst hw
        have hP : va_P D classes [(h0, .inr (2, [.ref hn, .ref hi0, .ref hi1, .int kp, .ref hR, .ref hT])), (hn, .inr (1, [.ref nx, .ref ny, .int now.2.2.1, .int now.2.2.2.1, .int now.2.2.2.2])), (nx, .inl (cI, 10, .inl now.1)), (ny, .inl (cI, 10, .inl now.2.1)), (hr, .inr (0, rdv r))] H := hP
        have hD : va_D A [(h0, .inr (2, [.ref hn, .ref hi0, .ref hi1, .int kp, .ref hR, .ref hT])), (hn, .inr (1, [.ref nx, .ref ny, .int now.2.2.1, .int now.2.2.2.1, .int now.2.2.2.2])), (nx, .inl (cI, 10, .inl now.1)), (ny, .inl (cI, 10, .inl now.2.1)), (hr, .inr (0, rdv r))] := hD
        refine lv_if_eq (tgt := 52) hx hb dX2_coverBy_21 (by decide) (fun c_21 => ?_) (fun c_21 => ?_)
        · refine lv_iinc (v := i + 1) (lv' := [(3, .int (i + 1)), (0, .ref h0), (1, .ref hr), (2, .int v)]) hx hb dX2_coverBy_52 hl (k := 3) rfl rfl (by decide) rfl (fun ls hl => ?_)
          refine lv_goto (tgt := 4) hx hb dX2_coverBy_55 (by decide) ?_
          exact ih (k + 1) v (i + 1) (i_succ hi (by omega)) (i_lt10 hi c_7) (by omega) X (hX.trans ((if_neg c_7).trans ((if_pos c_21)))) _ _ hP hD hS _ (lv_sub hl [1, 2, 3, 0] rfl)
        · refine lv_iload_n hx hb dX2_coverBy_24 rfl (lv_at hl 2 rfl) ?_
          refine lv_aload_n hx hb dX2_coverBy_25 rfl (lv_at hl 1 rfl) ?_
          refine lv_aload_n hx hb dX2_coverBy_26 rfl (lv_at hl 0 rfl) ?_
          refine va_get (D := D) (ci := 2) (v := .ref hn) (C := RX2) (T := TX2) (N := 6) hx hb hts iX2_coverBy_X2 hown hK.1 hP 0 rfl rfl 0 (by decide) (hts (.fieldLink RX2 12 "CompassBias" "now" "LCompassBias$Samples;") (List.mem_of_getElem? (i := 1) rfl)) (fun _ h9 => h9) rfl dX2_coverBy_27 ?_
          refine va_get (D := D) (ci := 1) (v := .ref nx) (C := RX1) (T := TX1) (N := 5) hx hb hts iX2_coverBy_X1 hown hK.1 hP 1 rfl rfl 0 (by decide) (hts (.fieldLink RX2 43 "CompassBias$Samples" "xs" "[I") (List.mem_of_getElem? (i := 3) rfl)) (fun _ h9 => h9) rfl dX2_coverBy_30 ?_
          refine lv_iload_n hx hb dX2_coverBy_33 rfl (lv_at hl 3 rfl) ?_
          refine va_iald hx hb hK.1 hP 2 0 rfl rfl (vp_of hi (i_lt10 hi c_7)) dX2_coverBy_34 ?_
          refine lv_aload_n hx hb dX2_coverBy_35 rfl (lv_at hl 0 rfl) ?_
          refine va_get (D := D) (ci := 2) (v := .ref hn) (C := RX2) (T := TX2) (N := 6) hx hb hts iX2_coverBy_X2 hown hK.1 hP 0 rfl rfl 0 (by decide) (hts (.fieldLink RX2 12 "CompassBias" "now" "LCompassBias$Samples;") (List.mem_of_getElem? (i := 1) rfl)) (fun _ h9 => h9) rfl dX2_coverBy_36 ?_
          refine va_get (D := D) (ci := 1) (v := .ref ny) (C := RX1) (T := TX1) (N := 5) hx hb hts iX2_coverBy_X1 hown hK.1 hP 1 rfl rfl 1 (by decide) (hts (.fieldLink RX2 47 "CompassBias$Samples" "ys" "[I") (List.mem_of_getElem? (i := 4) rfl)) (fun _ h9 => h9) rfl dX2_coverBy_39 ?_
          refine lv_iload_n hx hb dX2_coverBy_42 rfl (lv_at hl 3 rfl) ?_
          refine va_iald hx hb hK.1 hP 3 0 rfl rfl (vp_of hi (i_lt10 hi c_7)) dX2_coverBy_43 ?_
          refine aft_i (wr := [(h0, .inr (2, [.ref hn, .ref hi0, .ref hi1, .int kp, .ref hR, .ref hT])), (hn, .inr (1, [.ref nx, .ref ny, .int now.2.2.1, .int now.2.2.2.1, .int now.2.2.2.2])), (nx, .inl (cI, 10, .inl now.1)), (ny, .inl (cI, 10, .inl now.2.1))]) (run_V (As := [.int (now.1 i.toNatClampNeg), .int (now.2.1 i.toNatClampNeg)]) (rest := [.int v]) C (c_X0_eighthAt l D cI cZ hr r (now.1 i.toNatClampNeg) (now.2.1 i.toNatClampNeg)) (cwV 2 hts gX2_coverBy_X0_eighthAt rfl rfl rfl (by decide +kernel) ⟨Nat.le_of_ble_eq_true rfl, Nat.le_of_ble_eq_true rfl⟩) hK (hP.sub (ws' := [(hr, .inr (0, rdv r))]) [4] rfl) (hD.sub (ws' := [(hr, .inr (0, rdv r))]) [4] (by decide) rfl) 0 0 rfl rfl rfl rfl hl.1 rfl (Nat.le_of_ble_eq_true rfl) dX2_coverBy_44 (Nat.zero_le _) (Nat.zero_le _)) hP hD hS hA [4] [0, 1, 2, 3] rfl rfl (by decide) (by decide) (fun z9 u9 H locs hw hP hD hS => ?_)
          subst hw
          have hP : va_P D classes [(h0, .inr (2, [.ref hn, .ref hi0, .ref hi1, .int kp, .ref hR, .ref hT])), (hn, .inr (1, [.ref nx, .ref ny, .int now.2.2.1, .int now.2.2.2.1, .int now.2.2.2.2])), (nx, .inl (cI, 10, .inl now.1)), (ny, .inl (cI, 10, .inl now.2.1)), (hr, .inr (0, rdv r))] H := hP
          have hD : va_D A [(h0, .inr (2, [.ref hn, .ref hi0, .ref hi1, .int kp, .ref hR, .ref hT])), (hn, .inr (1, [.ref nx, .ref ny, .int now.2.2.1, .int now.2.2.2.1, .int now.2.2.2.2])), (nx, .inl (cI, 10, .inl now.1)), (ny, .inl (cI, 10, .inl now.2.1)), (hr, .inr (0, rdv r))] := hD
          refine aft_i (wr := [(h0, .inr (2, [.ref hn, .ref hi0, .ref hi1, .int kp, .ref hR, .ref hT])), (hn, .inr (1, [.ref nx, .ref ny, .int now.2.2.1, .int now.2.2.2.1, .int now.2.2.2.2])), (nx, .inl (cI, 10, .inl now.1)), (ny, .inl (cI, 10, .inl now.2.1)), (hr, .inr (0, rdv r))]) (run_S (As := [.int (F_X0_eighthAt r (now.1 i.toNatClampNeg) (now.2.1 i.toNatClampNeg))]) (rest := [.int v]) C (c_X2_setOfEighth l D cI cZ (F_X0_eighthAt r (now.1 i.toNatClampNeg) (now.2.1 i.toNatClampNeg))) (va_cwS 1 hts gX2_coverBy_X2_setOfEighth rfl rfl rfl (by decide +kernel) ⟨Nat.le_of_ble_eq_true rfl, Nat.le_of_ble_eq_true rfl⟩) hK (hP.sub (ws' := []) [] rfl) (hD.sub (ws' := []) [] (by decide) rfl) rfl hl.1 rfl (Nat.le_of_ble_eq_true rfl) dX2_coverBy_47 (Nat.zero_le _) (Nat.zero_le _)) hP hD hS hA [] [0, 1, 2, 3, 4] rfl rfl (by decide) (by decide) (fun z9 u9 H locs hw hP hD hS => ?_)
          subst hw
          have hP : va_P D classes [(h0, .inr (2, [.ref hn, .ref hi0, .ref hi1, .int kp, .ref hR, .ref hT])), (hn, .inr (1, [.ref nx, .ref ny, .int now.2.2.1, .int now.2.2.2.1, .int now.2.2.2.2])), (nx, .inl (cI, 10, .inl now.1)), (ny, .inl (cI, 10, .inl now.2.1)), (hr, .inr (0, rdv r))] H := hP
          have hD : va_D A [(h0, .inr (2, [.ref hn, .ref hi0, .ref hi1, .int kp, .ref hR, .ref hT])), (hn, .inr (1, [.ref nx, .ref ny, .int now.2.2.1, .int now.2.2.2.1, .int now.2.2.2.2])), (nx, .inl (cI, 10, .inl now.1)), (ny, .inl (cI, 10, .inl now.2.1)), (hr, .inr (0, rdv r))] := hD
          refine lv_ior hx hb dX2_coverBy_50 ?_
          refine lv_istore_n (lv' := [(2, .int (v ||| (F_X2_setOfEighth (F_X0_eighthAt r (now.1 i.toNatClampNeg) (now.2.1 i.toNatClampNeg))))), (0, .ref h0), (1, .ref hr), (3, .int i)]) hx hb dX2_coverBy_51 rfl hl (by decide) rfl (fun ls hl => ?_)
          refine lv_iinc (v := i + 1) (lv' := [(3, .int (i + 1)), (2, .int (v ||| (F_X2_setOfEighth (F_X0_eighthAt r (now.1 i.toNatClampNeg) (now.2.1 i.toNatClampNeg))))), (0, .ref h0), (1, .ref hr)]) hx hb dX2_coverBy_52 hl (k := 3) rfl rfl (by decide) rfl (fun ls hl => ?_)
          refine lv_goto (tgt := 4) hx hb dX2_coverBy_55 (by decide) ?_
          exact ih (k + 1) (v ||| (F_X2_setOfEighth (F_X0_eighthAt r (now.1 i.toNatClampNeg) (now.2.1 i.toNatClampNeg)))) (i + 1) (i_succ hi (by omega)) (i_lt10 hi c_7) (by omega) X (hX.trans ((if_neg c_7).trans ((if_neg c_21)))) _ _ hP hD hS _ (lv_sub hl [2, 3, 1, 0] rfl)
  have hl : lv_has ls 4 [(0, .ref h0), (1, .ref hr)] := hl
  refine lv_iconst (v := 0) hx hb dX2_coverBy_0 (by decide) ?_
  refine lv_istore_n (lv' := [(2, .int 0), (0, .ref h0), (1, .ref hr)]) hx hb dX2_coverBy_1 rfl hl (by decide) rfl (fun ls hl => ?_)
  refine lv_iconst (v := 0) hx hb dX2_coverBy_2 (by decide) ?_
  refine lv_istore_n (lv' := [(3, .int 0), (2, .int 0), (0, .ref h0), (1, .ref hr)]) hx hb dX2_coverBy_3 rfl hl (by decide) rfl (fun ls hl => ?_)
  exact K4 11 0 0 0 rfl (by omega) (by omega) (F_X2_coverBy now r) rfl _ _ hP hD hS _ (lv_sub hl [2, 3, 1, 0] rfl)
def F_X2_isTheRoundPoor (now : Sm) (r : Rd) : Int32 := if (F_X0_isFlat r) = 0 then (if now.2.2.2.2 ≤ (F_J6_bitCount_0f7a4 (F_X2_coverBy now r)) then (0) else (1)) else (1)
theorem iX2_isTheRoundPoor_X1 : ∀ w ∈ u_ws RX1 TX1 5, w ∈ wsX2_isTheRoundPoor := fun _ h => List.mem_cons_of_mem _ (List.mem_append_left _ (List.mem_append_right _ (h)))
theorem iX2_isTheRoundPoor_X2 : ∀ w ∈ u_ws RX2 TX2 6, w ∈ wsX2_isTheRoundPoor := fun _ h => List.mem_cons_of_mem _ (List.mem_append_left _ (List.mem_append_left _ (List.mem_append_right _ (h))))
set_option maxHeartbeats 4000000 in
set_option maxRecDepth 100000 in
theorem c_X2_isTheRoundPoor (l : Launch) (D : va_G) (cI cZ : ClassId) (h0 hn hi0 hi1 hR hT nx ny : Nat) (now : Sm) (kp : Int32) (r : Rd) : CTi l yX2_isTheRoundPoor wsX2_isTheRoundPoor ({ frames := 3, cells := 0, slots := 0, locals := 68 } : Room) D cI cZ [.ref h0] [(h0, .inr (2, [.ref hn, .ref hi0, .ref hi1, .int kp, .ref hR, .ref hT])), (hn, .inr (1, [.ref nx, .ref ny, .int now.2.2.1, .int now.2.2.2.1, .int now.2.2.2.2])), (nx, .inl (cI, 10, .inl now.1)), (ny, .inl (cI, 10, .inl now.2.1)), (hR, .inr (0, rdv r))] (S := Unit) (fun z9 _ => F_X2_isTheRoundPoor now r = z9) (fun _ => [(h0, .inr (2, [.ref hn, .ref hi0, .ref hi1, .int kp, .ref hR, .ref hT])), (hn, .inr (1, [.ref nx, .ref ny, .int now.2.2.1, .int now.2.2.2.1, .int now.2.2.2.2])), (nx, .inl (cI, 10, .inl now.1)), (ny, .inl (cI, 10, .inl now.2.1)), (hR, .inr (0, rdv r))]) := by
  refine enterM (cc := cX2_isTheRoundPoor) (maxL := 1) (ret := (some .boolean)) (own := RX2) (Qc := fun A => va_Qi (S := Unit) (fun z9 _ => F_X2_isTheRoundPoor now r = z9) (PoB (S := Unit) D A (fun _ => [(h0, .inr (2, [.ref hn, .ref hi0, .ref hi1, .int kp, .ref hR, .ref hT])), (hn, .inr (1, [.ref nx, .ref ny, .int now.2.2.1, .int now.2.2.2.1, .int now.2.2.2.2])), (nx, .inl (cI, 10, .inl now.1)), (ny, .inl (cI, 10, .inl now.2.1)), (hR, .inr (0, rdv r))])) A) (by decide) rfl rfl (Nat.le_of_ble_eq_true rfl) ?_
  intro p e s m below meth c A ls C hK hA hP hD hS hl
  have hx := C.1
  have hb := C.2.1
  have hown := C.2.2.2.1
  have hts := C.2.2.2.2.1
  have _huse := hts
  have hl : lv_has ls 1 [(0, .ref h0)] := hl
  refine lv_aload_n hx hb dX2_isTheRoundPoor_0 rfl (lv_at hl 0 rfl) ?_
  refine va_get (D := D) (ci := 2) (v := .ref hR) (C := RX2) (T := TX2) (N := 6) hx hb hts iX2_isTheRoundPoor_X2 hown hK.1 hP 0 rfl rfl 4 (by decide) (hts (.fieldLink RX2 29 "CompassBias" "theRound" "LCompassBias$Round;") (List.mem_of_getElem? (i := 1) rfl)) (fun _ h9 => h9) rfl dX2_isTheRoundPoor_1 ?_
  refine aft_i (wr := [(h0, .inr (2, [.ref hn, .ref hi0, .ref hi1, .int kp, .ref hR, .ref hT])), (hn, .inr (1, [.ref nx, .ref ny, .int now.2.2.1, .int now.2.2.2.1, .int now.2.2.2.2])), (nx, .inl (cI, 10, .inl now.1)), (ny, .inl (cI, 10, .inl now.2.1))]) (run_V (As := []) (rest := []) C (c_X0_isFlat l D cI cZ hR r) (cwV 0 hts gX2_isTheRoundPoor_X0_isFlat rfl rfl rfl (by decide +kernel) ⟨Nat.le_of_ble_eq_true rfl, Nat.le_of_ble_eq_true rfl⟩) hK (hP.sub (ws' := [(hR, .inr (0, rdv r))]) [4] rfl) (hD.sub (ws' := [(hR, .inr (0, rdv r))]) [4] (by decide) rfl) 0 0 rfl rfl rfl rfl hl.1 rfl (Nat.le_of_ble_eq_true rfl) dX2_isTheRoundPoor_4 (Nat.zero_le _) (Nat.zero_le _)) hP hD hS hA [4] [0, 1, 2, 3] rfl rfl (by decide) (by decide) (fun z9 u9 H locs hw hP hD hS => ?_)
  subst hw
  have hP : va_P D classes [(h0, .inr (2, [.ref hn, .ref hi0, .ref hi1, .int kp, .ref hR, .ref hT])), (hn, .inr (1, [.ref nx, .ref ny, .int now.2.2.1, .int now.2.2.2.1, .int now.2.2.2.2])), (nx, .inl (cI, 10, .inl now.1)), (ny, .inl (cI, 10, .inl now.2.1)), (hR, .inr (0, rdv r))] H := hP
  have hD : va_D A [(h0, .inr (2, [.ref hn, .ref hi0, .ref hi1, .int kp, .ref hR, .ref hT])), (hn, .inr (1, [.ref nx, .ref ny, .int now.2.2.1, .int now.2.2.2.1, .int now.2.2.2.2])), (nx, .inl (cI, 10, .inl now.1)), (ny, .inl (cI, 10, .inl now.2.1)), (hR, .inr (0, rdv r))] := hD
  refine lv_if_ne (tgt := 31) hx hb dX2_isTheRoundPoor_7 (by decide) (fun c_7 => ?_) (fun c_7 => ?_)
  · refine lv_iconst (v := 1) hx hb dX2_isTheRoundPoor_31 (by decide) ?_
    refine lv_goto (tgt := 36) hx hb dX2_isTheRoundPoor_32 (by decide) ?_
    exact ret_z C (Or.inr rfl) () (if_neg c_7) hP hD hS dX2_isTheRoundPoor_36
  · refine lv_aload_n hx hb dX2_isTheRoundPoor_10 rfl (lv_at hl 0 rfl) ?_
    refine lv_aload_n hx hb dX2_isTheRoundPoor_11 rfl (lv_at hl 0 rfl) ?_
    refine va_get (D := D) (ci := 2) (v := .ref hR) (C := RX2) (T := TX2) (N := 6) hx hb hts iX2_isTheRoundPoor_X2 hown hK.1 hP 0 rfl rfl 4 (by decide) (hts (.fieldLink RX2 29 "CompassBias" "theRound" "LCompassBias$Round;") (List.mem_of_getElem? (i := 1) rfl)) (fun _ h9 => h9) rfl dX2_isTheRoundPoor_12 ?_
    refine aft_i (wr := []) (run_V (As := [.ref hR]) (rest := []) C (c_X2_coverBy l D cI cZ h0 hR hn hi0 hi1 hR hT nx ny now kp r) (cwV 1 hts gX2_isTheRoundPoor_X2_coverBy rfl rfl rfl (by decide +kernel) ⟨Nat.le_of_ble_eq_true rfl, Nat.le_of_ble_eq_true rfl⟩) hK (hP.sub (ws' := [(h0, .inr (2, [.ref hn, .ref hi0, .ref hi1, .int kp, .ref hR, .ref hT])), (hn, .inr (1, [.ref nx, .ref ny, .int now.2.2.1, .int now.2.2.2.1, .int now.2.2.2.2])), (nx, .inl (cI, 10, .inl now.1)), (ny, .inl (cI, 10, .inl now.2.1)), (hR, .inr (0, rdv r))]) [0, 1, 2, 3, 4] rfl) (hD.sub (ws' := [(h0, .inr (2, [.ref hn, .ref hi0, .ref hi1, .int kp, .ref hR, .ref hT])), (hn, .inr (1, [.ref nx, .ref ny, .int now.2.2.1, .int now.2.2.2.1, .int now.2.2.2.2])), (nx, .inl (cI, 10, .inl now.1)), (ny, .inl (cI, 10, .inl now.2.1)), (hR, .inr (0, rdv r))]) [0, 1, 2, 3, 4] (by decide) rfl) 0 2 rfl rfl rfl rfl hl.1 rfl (Nat.le_of_ble_eq_true rfl) dX2_isTheRoundPoor_15 (Nat.zero_le _) (Nat.zero_le _)) hP hD hS hA [0, 1, 2, 3, 4] [] rfl rfl (by decide) (by decide) (fun z9 u9 H locs hw hP hD hS => ?_)
    subst hw
    have hP : va_P D classes [(h0, .inr (2, [.ref hn, .ref hi0, .ref hi1, .int kp, .ref hR, .ref hT])), (hn, .inr (1, [.ref nx, .ref ny, .int now.2.2.1, .int now.2.2.2.1, .int now.2.2.2.2])), (nx, .inl (cI, 10, .inl now.1)), (ny, .inl (cI, 10, .inl now.2.1)), (hR, .inr (0, rdv r))] H := hP
    have hD : va_D A [(h0, .inr (2, [.ref hn, .ref hi0, .ref hi1, .int kp, .ref hR, .ref hT])), (hn, .inr (1, [.ref nx, .ref ny, .int now.2.2.1, .int now.2.2.2.1, .int now.2.2.2.2])), (nx, .inl (cI, 10, .inl now.1)), (ny, .inl (cI, 10, .inl now.2.1)), (hR, .inr (0, rdv r))] := hD
    refine aft_i (wr := [(h0, .inr (2, [.ref hn, .ref hi0, .ref hi1, .int kp, .ref hR, .ref hT])), (hn, .inr (1, [.ref nx, .ref ny, .int now.2.2.1, .int now.2.2.2.1, .int now.2.2.2.2])), (nx, .inl (cI, 10, .inl now.1)), (ny, .inl (cI, 10, .inl now.2.1)), (hR, .inr (0, rdv r))]) (run_S (As := [.int (F_X2_coverBy now r)]) (rest := []) C (c_J6_bitCount_0f7a4 l D cI cZ (F_X2_coverBy now r)) (va_cwS 1 hts gX2_isTheRoundPoor_J6_bitCount_0f7a4 rfl rfl rfl (by decide +kernel) ⟨Nat.le_of_ble_eq_true rfl, Nat.le_of_ble_eq_true rfl⟩) hK (hP.sub (ws' := []) [] rfl) (hD.sub (ws' := []) [] (by decide) rfl) rfl hl.1 rfl (Nat.le_of_ble_eq_true rfl) dX2_isTheRoundPoor_18 (Nat.zero_le _) (Nat.zero_le _)) hP hD hS hA [] [0, 1, 2, 3, 4] rfl rfl (by decide) (by decide) (fun z9 u9 H locs hw hP hD hS => ?_)
    subst hw
    have hP : va_P D classes [(h0, .inr (2, [.ref hn, .ref hi0, .ref hi1, .int kp, .ref hR, .ref hT])), (hn, .inr (1, [.ref nx, .ref ny, .int now.2.2.1, .int now.2.2.2.1, .int now.2.2.2.2])), (nx, .inl (cI, 10, .inl now.1)), (ny, .inl (cI, 10, .inl now.2.1)), (hR, .inr (0, rdv r))] H := hP
    have hD : va_D A [(h0, .inr (2, [.ref hn, .ref hi0, .ref hi1, .int kp, .ref hR, .ref hT])), (hn, .inr (1, [.ref nx, .ref ny, .int now.2.2.1, .int now.2.2.2.1, .int now.2.2.2.2])), (nx, .inl (cI, 10, .inl now.1)), (ny, .inl (cI, 10, .inl now.2.1)), (hR, .inr (0, rdv r))] := hD
    refine lv_aload_n hx hb dX2_isTheRoundPoor_21 rfl (lv_at hl 0 rfl) ?_
    refine va_get (D := D) (ci := 2) (v := .ref hn) (C := RX2) (T := TX2) (N := 6) hx hb hts iX2_isTheRoundPoor_X2 hown hK.1 hP 0 rfl rfl 0 (by decide) (hts (.fieldLink RX2 12 "CompassBias" "now" "LCompassBias$Samples;") (List.mem_of_getElem? (i := 2) rfl)) (fun _ h9 => h9) rfl dX2_isTheRoundPoor_22 ?_
    refine va_get (D := D) (ci := 1) (v := .int now.2.2.2.2) (C := RX1) (T := TX1) (N := 5) hx hb hts iX2_isTheRoundPoor_X1 hown hK.1 hP 1 rfl rfl 4 (by decide) (hts (.fieldLink RX2 122 "CompassBias$Samples" "needed" "I") (List.mem_of_getElem? (i := 3) rfl)) (fun _ h9 => h9) rfl dX2_isTheRoundPoor_25 ?_
    refine lv_icmp_ge (tgt := 35) hx hb dX2_isTheRoundPoor_28 (by decide) (fun c_28 => ?_) (fun c_28 => ?_)
    · refine lv_iconst (v := 0) hx hb dX2_isTheRoundPoor_35 (by decide) ?_
      exact ret_z C (Or.inl rfl) () ((if_pos c_7).trans ((if_pos c_28))) hP hD hS dX2_isTheRoundPoor_36
    · refine lv_iconst (v := 1) hx hb dX2_isTheRoundPoor_31 (by decide) ?_
      refine lv_goto (tgt := 36) hx hb dX2_isTheRoundPoor_32 (by decide) ?_
      exact ret_z C (Or.inr rfl) () ((if_pos c_7).trans ((if_neg c_28))) hP hD hS dX2_isTheRoundPoor_36
def F_X2_isSizeAbove (now : Sm) (r : Rd) (p0 : Int32) (p1 : Int32) : Int32 := if (lg_cmp (F_X2_sizeUpper now r p0) (p1.toInt64 * (F_X0_fullLower r))) ≤ 0 then (0) else (1)
set_option maxHeartbeats 4000000 in
set_option maxRecDepth 100000 in
theorem c_X2_isSizeAbove (l : Launch) (D : va_G) (cI cZ : ClassId) (h0 hr hn hi0 hi1 hR hT nx ny : Nat) (now : Sm) (kp : Int32) (r : Rd) (p0 : Int32) (p1 : Int32) : CTi l yX2_isSizeAbove wsX2_isSizeAbove ({ frames := 3, cells := 0, slots := 0, locals := 65 } : Room) D cI cZ [.ref h0, .ref hr, .int p0, .int p1] [(h0, .inr (2, [.ref hn, .ref hi0, .ref hi1, .int kp, .ref hR, .ref hT])), (hn, .inr (1, [.ref nx, .ref ny, .int now.2.2.1, .int now.2.2.2.1, .int now.2.2.2.2])), (nx, .inl (cI, 10, .inl now.1)), (ny, .inl (cI, 10, .inl now.2.1)), (hr, .inr (0, rdv r))] (S := Unit) (fun z9 _ => F_X2_isSizeAbove now r p0 p1 = z9) (fun _ => [(h0, .inr (2, [.ref hn, .ref hi0, .ref hi1, .int kp, .ref hR, .ref hT])), (hn, .inr (1, [.ref nx, .ref ny, .int now.2.2.1, .int now.2.2.2.1, .int now.2.2.2.2])), (nx, .inl (cI, 10, .inl now.1)), (ny, .inl (cI, 10, .inl now.2.1)), (hr, .inr (0, rdv r))]) := by
  refine enterM (cc := cX2_isSizeAbove) (maxL := 4) (ret := (some .boolean)) (own := RX2) (Qc := fun A => va_Qi (S := Unit) (fun z9 _ => F_X2_isSizeAbove now r p0 p1 = z9) (PoB (S := Unit) D A (fun _ => [(h0, .inr (2, [.ref hn, .ref hi0, .ref hi1, .int kp, .ref hR, .ref hT])), (hn, .inr (1, [.ref nx, .ref ny, .int now.2.2.1, .int now.2.2.2.1, .int now.2.2.2.2])), (nx, .inl (cI, 10, .inl now.1)), (ny, .inl (cI, 10, .inl now.2.1)), (hr, .inr (0, rdv r))])) A) (by decide) rfl rfl (Nat.le_of_ble_eq_true rfl) ?_
  intro p e s m below meth c A ls C hK hA hP hD hS hl
  have hx := C.1
  have hb := C.2.1
  have hown := C.2.2.2.1
  have hts := C.2.2.2.2.1
  have _huse := hts
  have hl : lv_has ls 4 [(0, .ref h0), (1, .ref hr), (2, .int p0), (3, .int p1)] := hl
  refine lv_aload_n hx hb dX2_isSizeAbove_0 rfl (lv_at hl 0 rfl) ?_
  refine lv_aload_n hx hb dX2_isSizeAbove_1 rfl (lv_at hl 1 rfl) ?_
  refine lv_iload_n hx hb dX2_isSizeAbove_2 rfl (lv_at hl 2 rfl) ?_
  refine aft_l (wr := []) (run_V (As := [.ref hr, .int p0]) (rest := []) C (c_X2_sizeUpper l D cI cZ h0 hr hn hi0 hi1 hR hT nx ny now kp r p0) (cwV 2 hts gX2_isSizeAbove_X2_sizeUpper rfl rfl rfl (by decide +kernel) ⟨Nat.le_of_ble_eq_true rfl, Nat.le_of_ble_eq_true rfl⟩) hK (hP.sub (ws' := [(h0, .inr (2, [.ref hn, .ref hi0, .ref hi1, .int kp, .ref hR, .ref hT])), (hn, .inr (1, [.ref nx, .ref ny, .int now.2.2.1, .int now.2.2.2.1, .int now.2.2.2.2])), (nx, .inl (cI, 10, .inl now.1)), (ny, .inl (cI, 10, .inl now.2.1)), (hr, .inr (0, rdv r))]) [0, 1, 2, 3, 4] rfl) (hD.sub (ws' := [(h0, .inr (2, [.ref hn, .ref hi0, .ref hi1, .int kp, .ref hR, .ref hT])), (hn, .inr (1, [.ref nx, .ref ny, .int now.2.2.1, .int now.2.2.2.1, .int now.2.2.2.2])), (nx, .inl (cI, 10, .inl now.1)), (ny, .inl (cI, 10, .inl now.2.1)), (hr, .inr (0, rdv r))]) [0, 1, 2, 3, 4] (by decide) rfl) 0 2 rfl rfl rfl rfl hl.1 rfl (Nat.le_of_ble_eq_true rfl) dX2_isSizeAbove_3 (Nat.zero_le _) (Nat.zero_le _)) hP hD hS hA [0, 1, 2, 3, 4] [] rfl rfl (by decide) (by decide) (fun z9 u9 H locs hw hP hD hS => ?_)
  subst hw
  have hP : va_P D classes [(h0, .inr (2, [.ref hn, .ref hi0, .ref hi1, .int kp, .ref hR, .ref hT])), (hn, .inr (1, [.ref nx, .ref ny, .int now.2.2.1, .int now.2.2.2.1, .int now.2.2.2.2])), (nx, .inl (cI, 10, .inl now.1)), (ny, .inl (cI, 10, .inl now.2.1)), (hr, .inr (0, rdv r))] H := hP
  have hD : va_D A [(h0, .inr (2, [.ref hn, .ref hi0, .ref hi1, .int kp, .ref hR, .ref hT])), (hn, .inr (1, [.ref nx, .ref ny, .int now.2.2.1, .int now.2.2.2.1, .int now.2.2.2.2])), (nx, .inl (cI, 10, .inl now.1)), (ny, .inl (cI, 10, .inl now.2.1)), (hr, .inr (0, rdv r))] := hD
  refine lv_iload_n hx hb dX2_isSizeAbove_6 rfl (lv_at hl 3 rfl) ?_
  refine lv_i2l (v := p1.toInt64) hx hb dX2_isSizeAbove_7 rfl ?_
  refine lv_aload_n hx hb dX2_isSizeAbove_8 rfl (lv_at hl 1 rfl) ?_
  refine aft_l (wr := [(h0, .inr (2, [.ref hn, .ref hi0, .ref hi1, .int kp, .ref hR, .ref hT])), (hn, .inr (1, [.ref nx, .ref ny, .int now.2.2.1, .int now.2.2.2.1, .int now.2.2.2.2])), (nx, .inl (cI, 10, .inl now.1)), (ny, .inl (cI, 10, .inl now.2.1))]) (run_V (As := []) (rest := [.long p1.toInt64, .long (F_X2_sizeUpper now r p0)]) C (c_X0_fullLower l D cI cZ hr r) (cwV 0 hts gX2_isSizeAbove_X0_fullLower rfl rfl rfl (by decide +kernel) ⟨Nat.le_of_ble_eq_true rfl, Nat.le_of_ble_eq_true rfl⟩) hK (hP.sub (ws' := [(hr, .inr (0, rdv r))]) [4] rfl) (hD.sub (ws' := [(hr, .inr (0, rdv r))]) [4] (by decide) rfl) 0 0 rfl rfl rfl rfl hl.1 rfl (Nat.le_of_ble_eq_true rfl) dX2_isSizeAbove_9 (Nat.zero_le _) (Nat.zero_le _)) hP hD hS hA [4] [0, 1, 2, 3] rfl rfl (by decide) (by decide) (fun z9 u9 H locs hw hP hD hS => ?_)
  subst hw
  have hP : va_P D classes [(h0, .inr (2, [.ref hn, .ref hi0, .ref hi1, .int kp, .ref hR, .ref hT])), (hn, .inr (1, [.ref nx, .ref ny, .int now.2.2.1, .int now.2.2.2.1, .int now.2.2.2.2])), (nx, .inl (cI, 10, .inl now.1)), (ny, .inl (cI, 10, .inl now.2.1)), (hr, .inr (0, rdv r))] H := hP
  have hD : va_D A [(h0, .inr (2, [.ref hn, .ref hi0, .ref hi1, .int kp, .ref hR, .ref hT])), (hn, .inr (1, [.ref nx, .ref ny, .int now.2.2.1, .int now.2.2.2.1, .int now.2.2.2.2])), (nx, .inl (cI, 10, .inl now.1)), (ny, .inl (cI, 10, .inl now.2.1)), (hr, .inr (0, rdv r))] := hD
  refine lv_lmul hx hb dX2_isSizeAbove_12 ?_
  refine W.lcmp hx hb dX2_isSizeAbove_13 ?_
  refine lv_if_le (tgt := 21) hx hb dX2_isSizeAbove_14 (by decide) (fun c_14 => ?_) (fun c_14 => ?_)
  · refine lv_iconst (v := 0) hx hb dX2_isSizeAbove_21 (by decide) ?_
    exact ret_z C (Or.inl rfl) () (if_pos c_14) hP hD hS dX2_isSizeAbove_22
  · refine lv_iconst (v := 1) hx hb dX2_isSizeAbove_17 (by decide) ?_
    refine lv_goto (tgt := 22) hx hb dX2_isSizeAbove_18 (by decide) ?_
    exact ret_z C (Or.inr rfl) () (if_neg c_14) hP hD hS dX2_isSizeAbove_22
def F_X2_isToTrim (now : Sm) (r : Rd) (p0 : Int32) : Int32 := if (F_J6_bitCount_0f7a4 now.2.2.2.1) ≤ 4 then (0) else (if (F_X0_isFlat r) = 0 then (if (F_X2_isSizeAbove now r (F_X2_worstSample now r) p0) = 0 then (0) else (1)) else (0))
theorem iX2_isToTrim_X1 : ∀ w ∈ u_ws RX1 TX1 5, w ∈ wsX2_isToTrim := fun _ h => List.mem_cons_of_mem _ (List.mem_append_left _ (List.mem_append_right _ (h)))
theorem iX2_isToTrim_X2 : ∀ w ∈ u_ws RX2 TX2 6, w ∈ wsX2_isToTrim := fun _ h => List.mem_cons_of_mem _ (List.mem_append_left _ (List.mem_append_left _ (List.mem_append_right _ (h))))
set_option maxHeartbeats 4000000 in
set_option maxRecDepth 100000 in
theorem c_X2_isToTrim (l : Launch) (D : va_G) (cI cZ : ClassId) (h0 hn hi0 hi1 hR hT nx ny : Nat) (now : Sm) (kp : Int32) (r : Rd) (p0 : Int32) : CTi l yX2_isToTrim wsX2_isToTrim ({ frames := 4, cells := 0, slots := 0, locals := 91 } : Room) D cI cZ [.ref h0, .int p0] [(h0, .inr (2, [.ref hn, .ref hi0, .ref hi1, .int kp, .ref hR, .ref hT])), (hn, .inr (1, [.ref nx, .ref ny, .int now.2.2.1, .int now.2.2.2.1, .int now.2.2.2.2])), (nx, .inl (cI, 10, .inl now.1)), (ny, .inl (cI, 10, .inl now.2.1)), (hR, .inr (0, rdv r))] (S := Unit) (fun z9 _ => F_X2_isToTrim now r p0 = z9) (fun _ => [(h0, .inr (2, [.ref hn, .ref hi0, .ref hi1, .int kp, .ref hR, .ref hT])), (hn, .inr (1, [.ref nx, .ref ny, .int now.2.2.1, .int now.2.2.2.1, .int now.2.2.2.2])), (nx, .inl (cI, 10, .inl now.1)), (ny, .inl (cI, 10, .inl now.2.1)), (hR, .inr (0, rdv r))]) := by
  refine enterM (cc := cX2_isToTrim) (maxL := 2) (ret := (some .boolean)) (own := RX2) (Qc := fun A => va_Qi (S := Unit) (fun z9 _ => F_X2_isToTrim now r p0 = z9) (PoB (S := Unit) D A (fun _ => [(h0, .inr (2, [.ref hn, .ref hi0, .ref hi1, .int kp, .ref hR, .ref hT])), (hn, .inr (1, [.ref nx, .ref ny, .int now.2.2.1, .int now.2.2.2.1, .int now.2.2.2.2])), (nx, .inl (cI, 10, .inl now.1)), (ny, .inl (cI, 10, .inl now.2.1)), (hR, .inr (0, rdv r))])) A) (by decide) rfl rfl (Nat.le_of_ble_eq_true rfl) ?_
  intro p e s m below meth c A ls C hK hA hP hD hS hl
  have hx := C.1
  have hb := C.2.1
  have hown := C.2.2.2.1
  have hts := C.2.2.2.2.1
  have _huse := hts
  have hl : lv_has ls 2 [(0, .ref h0), (1, .int p0)] := hl
  refine lv_aload_n hx hb dX2_isToTrim_0 rfl (lv_at hl 0 rfl) ?_
  refine va_get (D := D) (ci := 2) (v := .ref hn) (C := RX2) (T := TX2) (N := 6) hx hb hts iX2_isToTrim_X2 hown hK.1 hP 0 rfl rfl 0 (by decide) (hts (.fieldLink RX2 12 "CompassBias" "now" "LCompassBias$Samples;") (List.mem_of_getElem? (i := 1) rfl)) (fun _ h9 => h9) rfl dX2_isToTrim_1 ?_
  refine va_get (D := D) (ci := 1) (v := .int now.2.2.2.1) (C := RX1) (T := TX1) (N := 5) hx hb hts iX2_isToTrim_X1 hown hK.1 hP 1 rfl rfl 3 (by decide) (hts (.fieldLink RX2 50 "CompassBias$Samples" "taken" "I") (List.mem_of_getElem? (i := 2) rfl)) (fun _ h9 => h9) rfl dX2_isToTrim_4 ?_
  refine aft_i (wr := [(h0, .inr (2, [.ref hn, .ref hi0, .ref hi1, .int kp, .ref hR, .ref hT])), (hn, .inr (1, [.ref nx, .ref ny, .int now.2.2.1, .int now.2.2.2.1, .int now.2.2.2.2])), (nx, .inl (cI, 10, .inl now.1)), (ny, .inl (cI, 10, .inl now.2.1)), (hR, .inr (0, rdv r))]) (run_S (As := [.int now.2.2.2.1]) (rest := []) C (c_J6_bitCount_0f7a4 l D cI cZ now.2.2.2.1) (va_cwS 1 hts gX2_isToTrim_J6_bitCount_0f7a4 rfl rfl rfl (by decide +kernel) ⟨Nat.le_of_ble_eq_true rfl, Nat.le_of_ble_eq_true rfl⟩) hK (hP.sub (ws' := []) [] rfl) (hD.sub (ws' := []) [] (by decide) rfl) rfl hl.1 rfl (Nat.le_of_ble_eq_true rfl) dX2_isToTrim_7 (Nat.zero_le _) (Nat.zero_le _)) hP hD hS hA [] [0, 1, 2, 3, 4] rfl rfl (by decide) (by decide) (fun z9 u9 H locs hw hP hD hS => ?_)
  subst hw
  have hP : va_P D classes [(h0, .inr (2, [.ref hn, .ref hi0, .ref hi1, .int kp, .ref hR, .ref hT])), (hn, .inr (1, [.ref nx, .ref ny, .int now.2.2.1, .int now.2.2.2.1, .int now.2.2.2.2])), (nx, .inl (cI, 10, .inl now.1)), (ny, .inl (cI, 10, .inl now.2.1)), (hR, .inr (0, rdv r))] H := hP
  have hD : va_D A [(h0, .inr (2, [.ref hn, .ref hi0, .ref hi1, .int kp, .ref hR, .ref hT])), (hn, .inr (1, [.ref nx, .ref ny, .int now.2.2.1, .int now.2.2.2.1, .int now.2.2.2.2])), (nx, .inl (cI, 10, .inl now.1)), (ny, .inl (cI, 10, .inl now.2.1)), (hR, .inr (0, rdv r))] := hD
  refine lv_iconst (v := 4) hx hb dX2_isToTrim_10 (by decide) ?_
  refine lv_icmp_le (tgt := 44) hx hb dX2_isToTrim_11 (by decide) (fun c_11 => ?_) (fun c_11 => ?_)
  · refine lv_iconst (v := 0) hx hb dX2_isToTrim_44 (by decide) ?_
    exact ret_z C (Or.inl rfl) () (if_pos c_11) hP hD hS dX2_isToTrim_45
  · refine lv_aload_n hx hb dX2_isToTrim_14 rfl (lv_at hl 0 rfl) ?_
    refine va_get (D := D) (ci := 2) (v := .ref hR) (C := RX2) (T := TX2) (N := 6) hx hb hts iX2_isToTrim_X2 hown hK.1 hP 0 rfl rfl 4 (by decide) (hts (.fieldLink RX2 29 "CompassBias" "theRound" "LCompassBias$Round;") (List.mem_of_getElem? (i := 3) rfl)) (fun _ h9 => h9) rfl dX2_isToTrim_15 ?_
    refine aft_i (wr := [(h0, .inr (2, [.ref hn, .ref hi0, .ref hi1, .int kp, .ref hR, .ref hT])), (hn, .inr (1, [.ref nx, .ref ny, .int now.2.2.1, .int now.2.2.2.1, .int now.2.2.2.2])), (nx, .inl (cI, 10, .inl now.1)), (ny, .inl (cI, 10, .inl now.2.1))]) (run_V (As := []) (rest := []) C (c_X0_isFlat l D cI cZ hR r) (cwV 0 hts gX2_isToTrim_X0_isFlat rfl rfl rfl (by decide +kernel) ⟨Nat.le_of_ble_eq_true rfl, Nat.le_of_ble_eq_true rfl⟩) hK (hP.sub (ws' := [(hR, .inr (0, rdv r))]) [4] rfl) (hD.sub (ws' := [(hR, .inr (0, rdv r))]) [4] (by decide) rfl) 0 0 rfl rfl rfl rfl hl.1 rfl (Nat.le_of_ble_eq_true rfl) dX2_isToTrim_18 (Nat.zero_le _) (Nat.zero_le _)) hP hD hS hA [4] [0, 1, 2, 3] rfl rfl (by decide) (by decide) (fun z9 u9 H locs hw hP hD hS => ?_)
    subst hw
    have hP : va_P D classes [(h0, .inr (2, [.ref hn, .ref hi0, .ref hi1, .int kp, .ref hR, .ref hT])), (hn, .inr (1, [.ref nx, .ref ny, .int now.2.2.1, .int now.2.2.2.1, .int now.2.2.2.2])), (nx, .inl (cI, 10, .inl now.1)), (ny, .inl (cI, 10, .inl now.2.1)), (hR, .inr (0, rdv r))] H := hP
    have hD : va_D A [(h0, .inr (2, [.ref hn, .ref hi0, .ref hi1, .int kp, .ref hR, .ref hT])), (hn, .inr (1, [.ref nx, .ref ny, .int now.2.2.1, .int now.2.2.2.1, .int now.2.2.2.2])), (nx, .inl (cI, 10, .inl now.1)), (ny, .inl (cI, 10, .inl now.2.1)), (hR, .inr (0, rdv r))] := hD
    refine lv_if_ne (tgt := 44) hx hb dX2_isToTrim_21 (by decide) (fun c_21 => ?_) (fun c_21 => ?_)
    · refine lv_iconst (v := 0) hx hb dX2_isToTrim_44 (by decide) ?_
      exact ret_z C (Or.inl rfl) () ((if_neg c_11).trans ((if_neg c_21))) hP hD hS dX2_isToTrim_45
    · refine lv_aload_n hx hb dX2_isToTrim_24 rfl (lv_at hl 0 rfl) ?_
      refine lv_aload_n hx hb dX2_isToTrim_25 rfl (lv_at hl 0 rfl) ?_
      refine va_get (D := D) (ci := 2) (v := .ref hR) (C := RX2) (T := TX2) (N := 6) hx hb hts iX2_isToTrim_X2 hown hK.1 hP 0 rfl rfl 4 (by decide) (hts (.fieldLink RX2 29 "CompassBias" "theRound" "LCompassBias$Round;") (List.mem_of_getElem? (i := 3) rfl)) (fun _ h9 => h9) rfl dX2_isToTrim_26 ?_
      refine lv_aload_n hx hb dX2_isToTrim_29 rfl (lv_at hl 0 rfl) ?_
      refine aft_i (wr := []) (run_V (As := []) (rest := [.ref hR, .ref h0]) C (c_X2_worstSample l D cI cZ h0 hn hi0 hi1 hR hT nx ny now kp r) (cwV 0 hts gX2_isToTrim_X2_worstSample rfl rfl rfl (by decide +kernel) ⟨Nat.le_of_ble_eq_true rfl, Nat.le_of_ble_eq_true rfl⟩) hK (hP.sub (ws' := [(h0, .inr (2, [.ref hn, .ref hi0, .ref hi1, .int kp, .ref hR, .ref hT])), (hn, .inr (1, [.ref nx, .ref ny, .int now.2.2.1, .int now.2.2.2.1, .int now.2.2.2.2])), (nx, .inl (cI, 10, .inl now.1)), (ny, .inl (cI, 10, .inl now.2.1)), (hR, .inr (0, rdv r))]) [0, 1, 2, 3, 4] rfl) (hD.sub (ws' := [(h0, .inr (2, [.ref hn, .ref hi0, .ref hi1, .int kp, .ref hR, .ref hT])), (hn, .inr (1, [.ref nx, .ref ny, .int now.2.2.1, .int now.2.2.2.1, .int now.2.2.2.2])), (nx, .inl (cI, 10, .inl now.1)), (ny, .inl (cI, 10, .inl now.2.1)), (hR, .inr (0, rdv r))]) [0, 1, 2, 3, 4] (by decide) rfl) 0 2 rfl rfl rfl rfl hl.1 rfl (Nat.le_of_ble_eq_true rfl) dX2_isToTrim_30 (Nat.zero_le _) (Nat.zero_le _)) hP hD hS hA [0, 1, 2, 3, 4] [] rfl rfl (by decide) (by decide) (fun z9 u9 H locs hw hP hD hS => ?_)
      subst hw
      have hP : va_P D classes [(h0, .inr (2, [.ref hn, .ref hi0, .ref hi1, .int kp, .ref hR, .ref hT])), (hn, .inr (1, [.ref nx, .ref ny, .int now.2.2.1, .int now.2.2.2.1, .int now.2.2.2.2])), (nx, .inl (cI, 10, .inl now.1)), (ny, .inl (cI, 10, .inl now.2.1)), (hR, .inr (0, rdv r))] H := hP
      have hD : va_D A [(h0, .inr (2, [.ref hn, .ref hi0, .ref hi1, .int kp, .ref hR, .ref hT])), (hn, .inr (1, [.ref nx, .ref ny, .int now.2.2.1, .int now.2.2.2.1, .int now.2.2.2.2])), (nx, .inl (cI, 10, .inl now.1)), (ny, .inl (cI, 10, .inl now.2.1)), (hR, .inr (0, rdv r))] := hD
      refine lv_iload_n hx hb dX2_isToTrim_33 rfl (lv_at hl 1 rfl) ?_
      refine aft_i (wr := []) (run_V (As := [.ref hR, .int (F_X2_worstSample now r), .int p0]) (rest := []) C (c_X2_isSizeAbove l D cI cZ h0 hR hn hi0 hi1 hR hT nx ny now kp r (F_X2_worstSample now r) p0) (cwV 3 hts gX2_isToTrim_X2_isSizeAbove rfl rfl rfl (by decide +kernel) ⟨Nat.le_of_ble_eq_true rfl, Nat.le_of_ble_eq_true rfl⟩) hK (hP.sub (ws' := [(h0, .inr (2, [.ref hn, .ref hi0, .ref hi1, .int kp, .ref hR, .ref hT])), (hn, .inr (1, [.ref nx, .ref ny, .int now.2.2.1, .int now.2.2.2.1, .int now.2.2.2.2])), (nx, .inl (cI, 10, .inl now.1)), (ny, .inl (cI, 10, .inl now.2.1)), (hR, .inr (0, rdv r))]) [0, 1, 2, 3, 4] rfl) (hD.sub (ws' := [(h0, .inr (2, [.ref hn, .ref hi0, .ref hi1, .int kp, .ref hR, .ref hT])), (hn, .inr (1, [.ref nx, .ref ny, .int now.2.2.1, .int now.2.2.2.1, .int now.2.2.2.2])), (nx, .inl (cI, 10, .inl now.1)), (ny, .inl (cI, 10, .inl now.2.1)), (hR, .inr (0, rdv r))]) [0, 1, 2, 3, 4] (by decide) rfl) 0 2 rfl rfl rfl rfl hl.1 rfl (Nat.le_of_ble_eq_true rfl) dX2_isToTrim_34 (Nat.zero_le _) (Nat.zero_le _)) hP hD hS hA [0, 1, 2, 3, 4] [] rfl rfl (by decide) (by decide) (fun z9 u9 H locs hw hP hD hS => ?_)
      subst hw
      have hP : va_P D classes [(h0, .inr (2, [.ref hn, .ref hi0, .ref hi1, .int kp, .ref hR, .ref hT])), (hn, .inr (1, [.ref nx, .ref ny, .int now.2.2.1, .int now.2.2.2.1, .int now.2.2.2.2])), (nx, .inl (cI, 10, .inl now.1)), (ny, .inl (cI, 10, .inl now.2.1)), (hR, .inr (0, rdv r))] H := hP
      have hD : va_D A [(h0, .inr (2, [.ref hn, .ref hi0, .ref hi1, .int kp, .ref hR, .ref hT])), (hn, .inr (1, [.ref nx, .ref ny, .int now.2.2.1, .int now.2.2.2.1, .int now.2.2.2.2])), (nx, .inl (cI, 10, .inl now.1)), (ny, .inl (cI, 10, .inl now.2.1)), (hR, .inr (0, rdv r))] := hD
      refine lv_if_eq (tgt := 44) hx hb dX2_isToTrim_37 (by decide) (fun c_37 => ?_) (fun c_37 => ?_)
      · refine lv_iconst (v := 0) hx hb dX2_isToTrim_44 (by decide) ?_
        exact ret_z C (Or.inl rfl) () ((if_neg c_11).trans ((if_pos c_21).trans ((if_pos c_37)))) hP hD hS dX2_isToTrim_45
      · refine lv_iconst (v := 1) hx hb dX2_isToTrim_40 (by decide) ?_
        refine lv_goto (tgt := 45) hx hb dX2_isToTrim_41 (by decide) ?_
        exact ret_z C (Or.inr rfl) () ((if_neg c_11).trans ((if_pos c_21).trans ((if_neg c_37)))) hP hD hS dX2_isToTrim_45
