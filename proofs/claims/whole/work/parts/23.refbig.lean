def F_X3_bitWith (st : Nat → Int32) (md : Rd) (p0 : Int32) (p1 : Int32) : Int32 × Rd := if (lg_cmp ((F_X3_layRound (F_X3_sumOne (F_X3_sumSet st md (st 21)) p0 p1)).2.2.2.2.2.2.2.2.2.2.2.2) 0) = 0 then ((0, F_X3_layRound (F_X3_sumOne (F_X3_sumSet st md (st 21)) p0 p1))) else (if (st 22) ≤ (F_X3_size ((F_X3_coverOf st (F_X3_layRound (F_X3_sumOne (F_X3_sumSet st md (st 21)) p0 p1)) (st 21)) ||| (F_X3_bit (F_X3_eighthAt (F_X3_layRound (F_X3_sumOne (F_X3_sumSet st md (st 21)) p0 p1)) p0 p1)))) then ((F_X3_bit (F_X3_eighthAt (F_X3_layRound (F_X3_sumOne (F_X3_sumSet st md (st 21)) p0 p1)) p0 p1), F_X3_layRound (F_X3_sumOne (F_X3_sumSet st md (st 21)) p0 p1))) else ((0, F_X3_layRound (F_X3_sumOne (F_X3_sumSet st md (st 21)) p0 p1))))
theorem iX3_bitWith_X3 : ∀ w ∈ u_ws RX3 TX3 16, w ∈ wsX3_bitWith := fun _ h => List.mem_cons_of_mem _ (List.mem_append_right _ (h))
set_option maxHeartbeats 4000000 in
set_option maxRecDepth 100000 in
theorem c_X3_bitWith (l : Launch) (D : va_G) (cI cZ : ClassId) (h0 ast aim akt : Nat) (st : Nat → Int32) (md : Rd) (p0 : Int32) (p1 : Int32) (hm : MB st) : CTi l yX3_bitWith wsX3_bitWith ({ frames := 3, cells := 0, slots := 0, locals := 68 } : Room) D cI cZ [.ref h0, .int p0, .int p1] [(h0, .inr (3, mdv ast aim akt md)), (ast, .inl (cI, 23, .inl st))] (S := Rd) (fun z9 u9 => F_X3_bitWith st md p0 p1 = (z9, u9)) (fun u => [(h0, .inr (3, mdv ast aim akt u)), (ast, .inl (cI, 23, .inl st))]) := by
  refine enterM (cc := cX3_bitWith) (maxL := 4) (ret := (some .int)) (own := RX3) (Qc := fun A => va_Qi (S := Rd) (fun z9 u9 => F_X3_bitWith st md p0 p1 = (z9, u9)) (PoB (S := Rd) D A (fun u => [(h0, .inr (3, mdv ast aim akt u)), (ast, .inl (cI, 23, .inl st))])) A) (by decide) rfl rfl (Nat.le_of_ble_eq_true rfl) ?_
  intro p e s m below meth c A ls C hK hA hP hD hS hl
  have hx := C.1
  have hb := C.2.1
  have hown := C.2.2.2.1
  have hts := C.2.2.2.2.1
  have _huse := hts
  have hl : lv_has ls 4 [(0, .ref h0), (1, .int p0), (2, .int p1)] := hl
  refine lv_aload_n hx hb dX3_bitWith_0 rfl (lv_at hl 0 rfl) ?_
  refine lv_aload_n hx hb dX3_bitWith_1 rfl (lv_at hl 0 rfl) ?_
  refine va_get (D := D) (ci := 3) (v := .ref ast) (C := RX3) (T := TX3) (N := 16) hx hb hts iX3_bitWith_X3 hown hK.1 hP 0 rfl rfl 0 (by decide) (hts (.fieldLink RX3 7 "CompassBiasModel" "state" "[I") (List.mem_of_getElem? (i := 1) rfl)) (fun _ h9 => h9) rfl dX3_bitWith_2 ?_
  refine lv_bipush (v := 21) hx hb dX3_bitWith_5 (by decide) ?_
  refine va_iald hx hb hK.1 hP 1 0 rfl rfl (vp_lit (by decide)) dX3_bitWith_7 ?_
  refine W.eq (g2 := F0 m 8 ls [.int (st 21), .ref h0]) rfl ?_
  refine aft_v (wr := []) (run_V (As := [.int (st 21)]) (rest := []) C (c_X3_sumSet l D cI cZ h0 ast aim akt st md (st 21) hm) (cwV 1 hts gX3_bitWith_X3_sumSet rfl rfl rfl (by decide +kernel) ⟨Nat.le_of_ble_eq_true rfl, Nat.le_of_ble_eq_true rfl⟩) hK (hP.sub (ws' := [(h0, .inr (3, mdv ast aim akt md)), (ast, .inl (cI, 23, .inl st))]) [0, 1] rfl) (hD.sub (ws' := [(h0, .inr (3, mdv ast aim akt md)), (ast, .inl (cI, 23, .inl st))]) [0, 1] (by decide) rfl) 0 3 rfl rfl rfl rfl hl.1 rfl (Nat.le_of_ble_eq_true rfl) dX3_bitWith_8 (Nat.zero_le _) (Nat.zero_le _)) hP hD hS hA [0, 1] [] rfl rfl (by decide) (by decide) (fun u9 H locs hw hP hD hS => ?_)
  subst hw
  have hP : va_P D classes [(h0, .inr (3, mdv ast aim akt (F_X3_sumSet st md (st 21)))), (ast, .inl (cI, 23, .inl st))] H := hP
  have hD : va_D A [(h0, .inr (3, mdv ast aim akt (F_X3_sumSet st md (st 21)))), (ast, .inl (cI, 23, .inl st))] := hD
  refine lv_aload_n hx hb dX3_bitWith_11 rfl (lv_at hl 0 rfl) ?_
  refine lv_iload_n hx hb dX3_bitWith_12 rfl (lv_at hl 1 rfl) ?_
  refine lv_iload_n hx hb dX3_bitWith_13 rfl (lv_at hl 2 rfl) ?_
  refine aft_v (wr := [(ast, .inl (cI, 23, .inl st))]) (run_V (As := [.int p0, .int p1]) (rest := []) C (c_X3_sumOne l D cI cZ h0 ast aim akt (F_X3_sumSet st md (st 21)) p0 p1) (cwV 2 hts gX3_bitWith_X3_sumOne rfl rfl rfl (by decide +kernel) ⟨Nat.le_of_ble_eq_true rfl, Nat.le_of_ble_eq_true rfl⟩) hK (hP.sub (ws' := [(h0, .inr (3, mdv ast aim akt (F_X3_sumSet st md (st 21))))]) [0] rfl) (hD.sub (ws' := [(h0, .inr (3, mdv ast aim akt (F_X3_sumSet st md (st 21))))]) [0] (by decide) rfl) 0 3 rfl rfl rfl rfl hl.1 rfl (Nat.le_of_ble_eq_true rfl) dX3_bitWith_14 (Nat.zero_le _) (Nat.zero_le _)) hP hD hS hA [0] [1] rfl rfl (by decide) (by decide) (fun u9 H locs hw hP hD hS => ?_)
  subst hw
  have hP : va_P D classes [(ast, .inl (cI, 23, .inl st)), (h0, .inr (3, mdv ast aim akt (F_X3_sumOne (F_X3_sumSet st md (st 21)) p0 p1)))] H := hP
  have hD : va_D A [(ast, .inl (cI, 23, .inl st)), (h0, .inr (3, mdv ast aim akt (F_X3_sumOne (F_X3_sumSet st md (st 21)) p0 p1)))] := hD
  refine lv_aload_n hx hb dX3_bitWith_17 rfl (lv_at hl 0 rfl) ?_
  refine aft_v (wr := [(ast, .inl (cI, 23, .inl st))]) (run_V (As := []) (rest := []) C (c_X3_layRound l D cI cZ h0 ast aim akt (F_X3_sumOne (F_X3_sumSet st md (st 21)) p0 p1)) (cwV 0 hts gX3_bitWith_X3_layRound rfl rfl rfl (by decide +kernel) ⟨Nat.le_of_ble_eq_true rfl, Nat.le_of_ble_eq_true rfl⟩) hK (hP.sub (ws' := [(h0, .inr (3, mdv ast aim akt (F_X3_sumOne (F_X3_sumSet st md (st 21)) p0 p1)))]) [1] rfl) (hD.sub (ws' := [(h0, .inr (3, mdv ast aim akt (F_X3_sumOne (F_X3_sumSet st md (st 21)) p0 p1)))]) [1] (by decide) rfl) 0 3 rfl rfl rfl rfl hl.1 rfl (Nat.le_of_ble_eq_true rfl) dX3_bitWith_18 (Nat.zero_le _) (Nat.zero_le _)) hP hD hS hA [1] [0] rfl rfl (by decide) (by decide) (fun u9 H locs hw hP hD hS => ?_)
  subst hw
  have hP : va_P D classes [(ast, .inl (cI, 23, .inl st)), (h0, .inr (3, mdv ast aim akt (F_X3_layRound (F_X3_sumOne (F_X3_sumSet st md (st 21)) p0 p1))))] H := hP
  have hD : va_D A [(ast, .inl (cI, 23, .inl st)), (h0, .inr (3, mdv ast aim akt (F_X3_layRound (F_X3_sumOne (F_X3_sumSet st md (st 21)) p0 p1))))] := hD
  refine lv_aload_n hx hb dX3_bitWith_21 rfl (lv_at hl 0 rfl) ?_
  refine va_get (D := D) (ci := 3) (v := .long ((F_X3_layRound (F_X3_sumOne (F_X3_sumSet st md (st 21)) p0 p1)).2.2.2.2.2.2.2.2.2.2.2.2)) (C := RX3) (T := TX3) (N := 16) hx hb hts iX3_bitWith_X3 hown hK.1 hP 1 rfl rfl 15 (by decide) (hts (.fieldLink RX3 80 "CompassBiasModel" "by" "J") (List.mem_of_getElem? (i := 2) rfl)) (fun _ h9 => h9) rfl dX3_bitWith_22 ?_
  refine lv_lconst (v := 0) hx hb dX3_bitWith_25 (by decide) ?_
  refine W.lcmp hx hb dX3_bitWith_26 ?_
  refine lv_if_ne (tgt := 32) hx hb dX3_bitWith_27 (by decide) (fun c_27 => ?_) (fun c_27 => ?_)
  · refine lv_aload_n hx hb dX3_bitWith_32 rfl (lv_at hl 0 rfl) ?_
    refine lv_iload_n hx hb dX3_bitWith_33 rfl (lv_at hl 1 rfl) ?_
    refine lv_iload_n hx hb dX3_bitWith_34 rfl (lv_at hl 2 rfl) ?_
    refine aft_i (wr := [(ast, .inl (cI, 23, .inl st))]) (run_V (As := [.int p0, .int p1]) (rest := []) C (c_X3_eighthAt l D cI cZ h0 ast aim akt (F_X3_layRound (F_X3_sumOne (F_X3_sumSet st md (st 21)) p0 p1)) p0 p1) (cwV 2 hts gX3_bitWith_X3_eighthAt rfl rfl rfl (by decide +kernel) ⟨Nat.le_of_ble_eq_true rfl, Nat.le_of_ble_eq_true rfl⟩) hK (hP.sub (ws' := [(h0, .inr (3, mdv ast aim akt (F_X3_layRound (F_X3_sumOne (F_X3_sumSet st md (st 21)) p0 p1))))]) [1] rfl) (hD.sub (ws' := [(h0, .inr (3, mdv ast aim akt (F_X3_layRound (F_X3_sumOne (F_X3_sumSet st md (st 21)) p0 p1))))]) [1] (by decide) rfl) 0 3 rfl rfl rfl rfl hl.1 rfl (Nat.le_of_ble_eq_true rfl) dX3_bitWith_35 (Nat.zero_le _) (Nat.zero_le _)) hP hD hS hA [1] [0] rfl rfl (by decide) (by decide) (fun z9 u9 H locs hw hP hD hS => ?_)
    subst hw
    have hP : va_P D classes [(ast, .inl (cI, 23, .inl st)), (h0, .inr (3, mdv ast aim akt (F_X3_layRound (F_X3_sumOne (F_X3_sumSet st md (st 21)) p0 p1))))] H := hP
    have hD : va_D A [(ast, .inl (cI, 23, .inl st)), (h0, .inr (3, mdv ast aim akt (F_X3_layRound (F_X3_sumOne (F_X3_sumSet st md (st 21)) p0 p1))))] := hD
    refine aft_i (wr := [(ast, .inl (cI, 23, .inl st)), (h0, .inr (3, mdv ast aim akt (F_X3_layRound (F_X3_sumOne (F_X3_sumSet st md (st 21)) p0 p1))))]) (run_S (As := [.int (F_X3_eighthAt (F_X3_layRound (F_X3_sumOne (F_X3_sumSet st md (st 21)) p0 p1)) p0 p1)]) (rest := []) C (c_X3_bit l D cI cZ (F_X3_eighthAt (F_X3_layRound (F_X3_sumOne (F_X3_sumSet st md (st 21)) p0 p1)) p0 p1)) (va_cwS 1 hts gX3_bitWith_X3_bit rfl rfl rfl (by decide +kernel) ⟨Nat.le_of_ble_eq_true rfl, Nat.le_of_ble_eq_true rfl⟩) hK (hP.sub (ws' := []) [] rfl) (hD.sub (ws' := []) [] (by decide) rfl) rfl hl.1 rfl (Nat.le_of_ble_eq_true rfl) dX3_bitWith_38 (Nat.zero_le _) (Nat.zero_le _)) hP hD hS hA [] [0, 1] rfl rfl (by decide) (by decide) (fun z9 u9 H locs hw hP hD hS => ?_)
    subst hw
    have hP : va_P D classes [(ast, .inl (cI, 23, .inl st)), (h0, .inr (3, mdv ast aim akt (F_X3_layRound (F_X3_sumOne (F_X3_sumSet st md (st 21)) p0 p1))))] H := hP
    have hD : va_D A [(ast, .inl (cI, 23, .inl st)), (h0, .inr (3, mdv ast aim akt (F_X3_layRound (F_X3_sumOne (F_X3_sumSet st md (st 21)) p0 p1))))] := hD
    refine lv_istore_n (lv' := [(3, .int (F_X3_bit (F_X3_eighthAt (F_X3_layRound (F_X3_sumOne (F_X3_sumSet st md (st 21)) p0 p1)) p0 p1))), (0, .ref h0), (1, .int p0), (2, .int p1)]) hx hb dX3_bitWith_41 rfl hl (by decide) rfl (fun ls hl => ?_)
    refine lv_aload_n hx hb dX3_bitWith_42 rfl (lv_at hl 1 rfl) ?_
    refine lv_aload_n hx hb dX3_bitWith_43 rfl (lv_at hl 1 rfl) ?_
    refine va_get (D := D) (ci := 3) (v := .ref ast) (C := RX3) (T := TX3) (N := 16) hx hb hts iX3_bitWith_X3 hown hK.1 hP 1 rfl rfl 0 (by decide) (hts (.fieldLink RX3 7 "CompassBiasModel" "state" "[I") (List.mem_of_getElem? (i := 1) rfl)) (fun _ h9 => h9) rfl dX3_bitWith_44 ?_
    refine lv_bipush (v := 21) hx hb dX3_bitWith_47 (by decide) ?_
    refine va_iald hx hb hK.1 hP 0 0 rfl rfl (vp_lit (by decide)) dX3_bitWith_49 ?_
    refine W.eq (g2 := F0 m 50 ls [.int (st 21), .ref h0]) rfl ?_
    refine aft_i (wr := []) (run_V (As := [.int (st 21)]) (rest := []) C (c_X3_coverOf l D cI cZ h0 ast aim akt st (F_X3_layRound (F_X3_sumOne (F_X3_sumSet st md (st 21)) p0 p1)) (st 21) hm) (cwV 1 hts gX3_bitWith_X3_coverOf rfl rfl rfl (by decide +kernel) ⟨Nat.le_of_ble_eq_true rfl, Nat.le_of_ble_eq_true rfl⟩) hK (hP.sub (ws' := [(h0, .inr (3, mdv ast aim akt (F_X3_layRound (F_X3_sumOne (F_X3_sumSet st md (st 21)) p0 p1)))), (ast, .inl (cI, 23, .inl st))]) [1, 0] rfl) (hD.sub (ws' := [(h0, .inr (3, mdv ast aim akt (F_X3_layRound (F_X3_sumOne (F_X3_sumSet st md (st 21)) p0 p1)))), (ast, .inl (cI, 23, .inl st))]) [1, 0] (by decide) rfl) 0 3 rfl rfl rfl rfl hl.1 rfl (Nat.le_of_ble_eq_true rfl) dX3_bitWith_50 (Nat.zero_le _) (Nat.zero_le _)) hP hD hS hA [1, 0] [] rfl rfl (by decide) (by decide) (fun z9 u9 H locs hw hP hD hS => ?_)
    subst hw
    have hP : va_P D classes [(h0, .inr (3, mdv ast aim akt (F_X3_layRound (F_X3_sumOne (F_X3_sumSet st md (st 21)) p0 p1)))), (ast, .inl (cI, 23, .inl st))] H := hP
    have hD : va_D A [(h0, .inr (3, mdv ast aim akt (F_X3_layRound (F_X3_sumOne (F_X3_sumSet st md (st 21)) p0 p1)))), (ast, .inl (cI, 23, .inl st))] := hD
    refine lv_iload_n hx hb dX3_bitWith_53 rfl (lv_at hl 0 rfl) ?_
    refine lv_ior hx hb dX3_bitWith_54 ?_
    refine aft_i (wr := [(h0, .inr (3, mdv ast aim akt (F_X3_layRound (F_X3_sumOne (F_X3_sumSet st md (st 21)) p0 p1)))), (ast, .inl (cI, 23, .inl st))]) (run_S (As := [.int ((F_X3_coverOf st (F_X3_layRound (F_X3_sumOne (F_X3_sumSet st md (st 21)) p0 p1)) (st 21)) ||| (F_X3_bit (F_X3_eighthAt (F_X3_layRound (F_X3_sumOne (F_X3_sumSet st md (st 21)) p0 p1)) p0 p1)))]) (rest := []) C (c_X3_size l D cI cZ ((F_X3_coverOf st (F_X3_layRound (F_X3_sumOne (F_X3_sumSet st md (st 21)) p0 p1)) (st 21)) ||| (F_X3_bit (F_X3_eighthAt (F_X3_layRound (F_X3_sumOne (F_X3_sumSet st md (st 21)) p0 p1)) p0 p1)))) (va_cwS 1 hts gX3_bitWith_X3_size rfl rfl rfl (by decide +kernel) ⟨Nat.le_of_ble_eq_true rfl, Nat.le_of_ble_eq_true rfl⟩) hK (hP.sub (ws' := []) [] rfl) (hD.sub (ws' := []) [] (by decide) rfl) rfl hl.1 rfl (Nat.le_of_ble_eq_true rfl) dX3_bitWith_55 (Nat.zero_le _) (Nat.zero_le _)) hP hD hS hA [] [0, 1] rfl rfl (by decide) (by decide) (fun z9 u9 H locs hw hP hD hS => ?_)
    subst hw
    have hP : va_P D classes [(h0, .inr (3, mdv ast aim akt (F_X3_layRound (F_X3_sumOne (F_X3_sumSet st md (st 21)) p0 p1)))), (ast, .inl (cI, 23, .inl st))] H := hP
    have hD : va_D A [(h0, .inr (3, mdv ast aim akt (F_X3_layRound (F_X3_sumOne (F_X3_sumSet st md (st 21)) p0 p1)))), (ast, .inl (cI, 23, .inl st))] := hD
    refine lv_aload_n hx hb dX3_bitWith_58 rfl (lv_at hl 1 rfl) ?_
    refine va_get (D := D) (ci := 3) (v := .ref ast) (C := RX3) (T := TX3) (N := 16) hx hb hts iX3_bitWith_X3 hown hK.1 hP 0 rfl rfl 0 (by decide) (hts (.fieldLink RX3 7 "CompassBiasModel" "state" "[I") (List.mem_of_getElem? (i := 1) rfl)) (fun _ h9 => h9) rfl dX3_bitWith_59 ?_
    refine lv_bipush (v := 22) hx hb dX3_bitWith_62 (by decide) ?_
    refine va_iald hx hb hK.1 hP 1 0 rfl rfl (vp_lit (by decide)) dX3_bitWith_64 ?_
    refine W.eq (g2 := F0 m 65 ls [.int (st 22), .int (F_X3_size ((F_X3_coverOf st (F_X3_layRound (F_X3_sumOne (F_X3_sumSet st md (st 21)) p0 p1)) (st 21)) ||| (F_X3_bit (F_X3_eighthAt (F_X3_layRound (F_X3_sumOne (F_X3_sumSet st md (st 21)) p0 p1)) p0 p1))))]) rfl ?_
    refine lv_icmp_ge (tgt := 72) hx hb dX3_bitWith_65 (by decide) (fun c_65 => ?_) (fun c_65 => ?_)
    · refine lv_iload_n hx hb dX3_bitWith_72 rfl (lv_at hl 0 rfl) ?_
      exact ret_i C (F_X3_layRound (F_X3_sumOne (F_X3_sumSet st md (st 21)) p0 p1)) ((if_neg c_27).trans ((if_pos c_65))) hP hD hS dX3_bitWith_73
    · refine lv_iconst (v := 0) hx hb dX3_bitWith_68 (by decide) ?_
      refine lv_goto (tgt := 73) hx hb dX3_bitWith_69 (by decide) ?_
      exact ret_i C (F_X3_layRound (F_X3_sumOne (F_X3_sumSet st md (st 21)) p0 p1)) ((if_neg c_27).trans ((if_neg c_65))) hP hD hS dX3_bitWith_73
  · refine lv_iconst (v := 0) hx hb dX3_bitWith_30 (by decide) ?_
    exact ret_i C (F_X3_layRound (F_X3_sumOne (F_X3_sumSet st md (st 21)) p0 p1)) (if_pos c_27) (hP.sub (ws' := [(h0, .inr (3, mdv ast aim akt (F_X3_layRound (F_X3_sumOne (F_X3_sumSet st md (st 21)) p0 p1)))), (ast, .inl (cI, 23, .inl st))]) [1, 0] rfl) (hD.sub (ws' := [(h0, .inr (3, mdv ast aim akt (F_X3_layRound (F_X3_sumOne (F_X3_sumSet st md (st 21)) p0 p1)))), (ast, .inl (cI, 23, .inl st))]) [1, 0] (by decide) rfl) hS dX3_bitWith_31
def L_X3_helps_28 (st : Nat → Int32) : Nat → Int32 → Int32 → Int32 → Rd → Int32 × Rd
  | 0, _, _, _, _ => (0, (0, 0, 0, 0, 0, 0, 0, 0, 0, 0, 0, 0, 0))
  | n + 1, x, y, f, q => if 40 < y then ((f, q)) else (L_X3_helps_28 st n x (y + 1) (f ||| ((F_X3_bitWith st q x y).1)) ((F_X3_bitWith st q x y).2))
def L_X3_helps_19 (st : Nat → Int32) : Nat → Int32 → Int32 → Rd → Int32 × Rd
  | 0, _, _, _ => (0, (0, 0, 0, 0, 0, 0, 0, 0, 0, 0, 0, 0, 0))
  | n + 1, x, f, q => if 40 < x then ((f, q)) else (L_X3_helps_19 st n (x + 1) ((L_X3_helps_28 st 82 x (-40) f q).1) ((L_X3_helps_28 st 82 x (-40) f q).2))
def F_X3_helps (st : Nat → Int32) (md : Rd) : Int32 × Rd := if (st 20) = 10 then ((0, md)) else (L_X3_helps_19 st 82 (-40) 0 md)
theorem iX3_helps_X3 : ∀ w ∈ u_ws RX3 TX3 16, w ∈ wsX3_helps := fun _ h => List.mem_cons_of_mem _ (List.mem_append_right _ (h))
set_option maxHeartbeats 4000000 in
set_option maxRecDepth 100000 in
theorem c_X3_helps (l : Launch) (D : va_G) (cI cZ : ClassId) (h0 ast aim akt : Nat) (st : Nat → Int32) (md : Rd) (hm : MB st) : CTi l yX3_helps wsX3_helps ({ frames := 4, cells := 0, slots := 0, locals := 91 } : Room) D cI cZ [.ref h0] [(h0, .inr (3, mdv ast aim akt md)), (ast, .inl (cI, 23, .inl st))] (S := Rd) (fun z9 u9 => F_X3_helps st md = (z9, u9)) (fun u => [(h0, .inr (3, mdv ast aim akt u)), (ast, .inl (cI, 23, .inl st))]) := by
  refine enterM (cc := cX3_helps) (maxL := 4) (ret := (some .int)) (own := RX3) (Qc := fun A => va_Qi (S := Rd) (fun z9 u9 => F_X3_helps st md = (z9, u9)) (PoB (S := Rd) D A (fun u => [(h0, .inr (3, mdv ast aim akt u)), (ast, .inl (cI, 23, .inl st))])) A) (by decide) rfl rfl (Nat.le_of_ble_eq_true rfl) ?_
  intro p e s m below meth c A ls C hK hA hP hD hS hl
  have hx := C.1
  have hb := C.2.1
  have hown := C.2.2.2.1
  have hts := C.2.2.2.2.1
  have _huse := hts
  have K28 : ∀ (Q : State → Prop) (n : Nat) (k : Nat) (x : Int32) (y : Int32) (f : Int32) (q : Rd) (_ : y.toInt = (k : Int) - 40) (_ : k ≤ 81) (_ : 81 < k + n) (X : Int32 × Rd) (_ : X = L_X3_helps_28 st n x y f q) (_ : ∀ (H : Heap) (locs : List Loc) (_ : va_P D classes [(h0, .inr (3, mdv ast aim akt X.2)), (ast, .inl (cI, 23, .inl st))] H) (_ : va_D A [(h0, .inr (3, mdv ast aim akt X.2)), (ast, .inl (cI, 23, .inl st))]) (_ : va_S A s.heap H locs) (ls : Array Slot) (_ : lv_has ls 4 [(0, .ref h0), (1, .int X.1), (2, .int x)]), W p l e ({ frames := 4, cells := 0, slots := 0, locals := 91 } : Room) s m [.ref h0].toArray below meth c H locs 0 0 Q (F0 m 49 ls [])) (H : Heap) (locs : List Loc) (_ : va_P D classes [(h0, .inr (3, mdv ast aim akt q)), (ast, .inl (cI, 23, .inl st))] H) (_ : va_D A [(h0, .inr (3, mdv ast aim akt q)), (ast, .inl (cI, 23, .inl st))]) (_ : va_S A s.heap H locs) (ls : Array Slot) (_ : lv_has ls 4 [(0, .ref h0), (1, .int f), (2, .int x), (3, .int y)]), W p l e ({ frames := 4, cells := 0, slots := 0, locals := 91 } : Room) s m [.ref h0].toArray below meth c H locs 0 0 Q (F0 m 28 ls []) := by
    intro Q n
    induction n with
    | zero =>
      intro k x y f q hi hk hfu X hX kont H locs hP hD hS ls hl
      exact absurd hfu (by omega)
    | succ n ih =>
      intro k x y f q hi hk hfu X hX kont H locs hP hD hS ls hl
      refine lv_iload_n hx hb dX3_helps_28 rfl (lv_at hl 3 rfl) ?_
      refine lv_bipush (v := 40) hx hb dX3_helps_29 (by decide) ?_
      refine lv_icmp_gt (tgt := 49) hx hb dX3_helps_31 (by decide) (fun c_31 => ?_) (fun c_31 => ?_)
      · have e9 : X = (f, q) := hX.trans ((if_pos c_31))
        subst e9
        exact kont _ _ hP hD hS _ (lv_sub hl [0, 1, 2] rfl)
      · refine lv_iload_n hx hb dX3_helps_34 rfl (lv_at hl 1 rfl) ?_
        refine lv_aload_n hx hb dX3_helps_35 rfl (lv_at hl 0 rfl) ?_
        refine lv_iload_n hx hb dX3_helps_36 rfl (lv_at hl 2 rfl) ?_
        refine lv_iload_n hx hb dX3_helps_37 rfl (lv_at hl 3 rfl) ?_
        refine aft_i (wr := []) (run_V (As := [.int x, .int y]) (rest := [.int f]) C (c_X3_bitWith l D cI cZ h0 ast aim akt st q x y hm) (cwV 2 hts gX3_helps_X3_bitWith rfl rfl rfl (by decide +kernel) ⟨Nat.le_of_ble_eq_true rfl, Nat.le_of_ble_eq_true rfl⟩) hK (hP.sub (ws' := [(h0, .inr (3, mdv ast aim akt q)), (ast, .inl (cI, 23, .inl st))]) [0, 1] rfl) (hD.sub (ws' := [(h0, .inr (3, mdv ast aim akt q)), (ast, .inl (cI, 23, .inl st))]) [0, 1] (by decide) rfl) 0 3 rfl rfl rfl rfl hl.1 rfl (Nat.le_of_ble_eq_true rfl) dX3_helps_38 (Nat.zero_le _) (Nat.zero_le _)) hP hD hS hA [0, 1] [] rfl rfl (by decide) (by decide) (fun z9 u9 H locs hw hP hD hS => ?_)
        obtain ⟨rfl, rfl⟩ : (F_X3_bitWith st q x y).1 = z9 ∧ (F_X3_bitWith st q x y).2 = u9 := by rw [hw]; exact ⟨rfl, rfl⟩
        have hP : va_P D classes [(h0, .inr (3, mdv ast aim akt ((F_X3_bitWith st q x y).2))), (ast, .inl (cI, 23, .inl st))] H := hP
        have hD : va_D A [(h0, .inr (3, mdv ast aim akt ((F_X3_bitWith st q x y).2))), (ast, .inl (cI, 23, .inl st))] := hD
        refine lv_ior hx hb dX3_helps_41 ?_
        refine lv_istore_n (lv' := [(1, .int (f ||| ((F_X3_bitWith st q x y).1))), (0, .ref h0), (2, .int x), (3, .int y)]) hx hb dX3_helps_42 rfl hl (by decide) rfl (fun ls hl => ?_)
        refine lv_iinc (v := y + 1) (lv' := [(3, .int (y + 1)), (1, .int (f ||| ((F_X3_bitWith st q x y).1))), (0, .ref h0), (2, .int x)]) hx hb dX3_helps_43 hl (k := 3) rfl rfl (by decide) rfl (fun ls hl => ?_)
        refine lv_goto (tgt := 28) hx hb dX3_helps_46 (by decide) ?_
        exact ih (k + 1) x (y + 1) (f ||| ((F_X3_bitWith st q x y).1)) ((F_X3_bitWith st q x y).2) (i_succ40 hi (by omega)) (i_le40 hi c_31) (by omega) X (hX.trans ((if_neg c_31))) kont _ _ hP hD hS _ (lv_sub hl [2, 1, 3, 0] rfl)
  have K19 : ∀ (n : Nat) (k : Nat) (x : Int32) (f : Int32) (q : Rd) (_ : x.toInt = (k : Int) - 40) (_ : k ≤ 81) (_ : 81 < k + n) (X : Int32 × Rd) (_ : X = L_X3_helps_19 st n x f q) (H : Heap) (locs : List Loc) (_ : va_P D classes [(h0, .inr (3, mdv ast aim akt q)), (ast, .inl (cI, 23, .inl st))] H) (_ : va_D A [(h0, .inr (3, mdv ast aim akt q)), (ast, .inl (cI, 23, .inl st))]) (_ : va_S A s.heap H locs) (ls : Array Slot) (_ : lv_has ls 4 [(0, .ref h0), (1, .int f), (2, .int x)]), W p l e ({ frames := 4, cells := 0, slots := 0, locals := 91 } : Room) s m [.ref h0].toArray below meth c H locs 0 0 (MQ below (va_Qi (S := Rd) (fun z9 u9 => X = (z9, u9)) (PoB (S := Rd) D A (fun u => [(h0, .inr (3, mdv ast aim akt u)), (ast, .inl (cI, 23, .inl st))])) A) [.ref h0].toArray s 0 0 A) (F0 m 19 ls []) := by
    intro n
    induction n with
    | zero =>
      intro k x f q hi hk hfu X hX H locs hP hD hS ls hl
      exact absurd hfu (by omega)
    | succ n ih =>
      intro k x f q hi hk hfu X hX H locs hP hD hS ls hl
      refine lv_iload_n hx hb dX3_helps_19 rfl (lv_at hl 2 rfl) ?_
      refine lv_bipush (v := 40) hx hb dX3_helps_20 (by decide) ?_
      refine lv_icmp_gt (tgt := 55) hx hb dX3_helps_22 (by decide) (fun c_22 => ?_) (fun c_22 => ?_)
      · refine lv_iload_n hx hb dX3_helps_55 rfl (lv_at hl 1 rfl) ?_
        exact ret_i C q (hX.trans ((if_pos c_22))) hP hD hS dX3_helps_56
      · refine lv_bipush (v := (-40)) hx hb dX3_helps_25 (by decide) ?_
        refine lv_istore_n (lv' := [(3, .int (-40)), (0, .ref h0), (1, .int f), (2, .int x)]) hx hb dX3_helps_27 rfl hl (by decide) rfl (fun ls hl => ?_)
        refine K28 _ 82 0 x (-40) f q (by decide) (by omega) (by omega) _ rfl (fun H locs hP hD hS ls hl => ?_) _ _ hP hD hS _ (lv_sub hl [1, 2, 3, 0] rfl)
        have hl : lv_has ls 4 [(0, .ref h0), (1, .int ((L_X3_helps_28 st 82 x (-40) f q).1)), (2, .int x)] := hl
        have hP : va_P D classes [(h0, .inr (3, mdv ast aim akt ((L_X3_helps_28 st 82 x (-40) f q).2))), (ast, .inl (cI, 23, .inl st))] H := hP
        have hD : va_D A [(h0, .inr (3, mdv ast aim akt ((L_X3_helps_28 st 82 x (-40) f q).2))), (ast, .inl (cI, 23, .inl st))] := hD
        refine lv_iinc (v := x + 1) (lv' := [(2, .int (x + 1)), (0, .ref h0), (1, .int ((L_X3_helps_28 st 82 x (-40) f q).1))]) hx hb dX3_helps_49 hl (k := 2) rfl rfl (by decide) rfl (fun ls hl => ?_)
        refine lv_goto (tgt := 19) hx hb dX3_helps_52 (by decide) ?_
        exact ih (k + 1) (x + 1) ((L_X3_helps_28 st 82 x (-40) f q).1) ((L_X3_helps_28 st 82 x (-40) f q).2) (i_succ40 hi (by omega)) (i_le40 hi c_22) (by omega) X (hX.trans ((if_neg c_22))) _ _ hP hD hS _ (lv_sub hl [1, 2, 0] rfl)
  have hl : lv_has ls 4 [(0, .ref h0)] := hl
  refine lv_aload_n hx hb dX3_helps_0 rfl (lv_at hl 0 rfl) ?_
  refine va_get (D := D) (ci := 3) (v := .ref ast) (C := RX3) (T := TX3) (N := 16) hx hb hts iX3_helps_X3 hown hK.1 hP 0 rfl rfl 0 (by decide) (hts (.fieldLink RX3 7 "CompassBiasModel" "state" "[I") (List.mem_of_getElem? (i := 1) rfl)) (fun _ h9 => h9) rfl dX3_helps_1 ?_
  refine lv_bipush (v := 20) hx hb dX3_helps_4 (by decide) ?_
  refine va_iald hx hb hK.1 hP 1 0 rfl rfl (vp_lit (by decide)) dX3_helps_6 ?_
  refine W.eq (g2 := F0 m 7 ls [.int (st 20)]) rfl ?_
  refine lv_bipush (v := 10) hx hb dX3_helps_7 (by decide) ?_
  refine lv_icmp_ne (tgt := 14) hx hb dX3_helps_9 (by decide) (fun c_9 => ?_) (fun c_9 => ?_)
  · refine lv_iconst (v := 0) hx hb dX3_helps_14 (by decide) ?_
    refine lv_istore_n (lv' := [(1, .int 0), (0, .ref h0)]) hx hb dX3_helps_15 rfl hl (by decide) rfl (fun ls hl => ?_)
    refine lv_bipush (v := (-40)) hx hb dX3_helps_16 (by decide) ?_
    refine lv_istore_n (lv' := [(2, .int (-40)), (1, .int 0), (0, .ref h0)]) hx hb dX3_helps_18 rfl hl (by decide) rfl (fun ls hl => ?_)
    exact K19 82 0 (-40) 0 md (by decide) (by omega) (by omega) (F_X3_helps st md) (if_neg c_9) _ _ hP hD hS _ (lv_sub hl [2, 1, 0] rfl)
  · refine lv_iconst (v := 0) hx hb dX3_helps_12 (by decide) ?_
    exact ret_i C md (if_pos c_9) hP hD hS dX3_helps_13
def L_X3_trim_39 (p0 : Int32) : Nat → Int32 → Int32 → (Nat → Int32) → Rd → Int32 × (Nat → Int32) × Rd
  | 0, _, _, _, _ => (0, fun _ => 0, (0, 0, 0, 0, 0, 0, 0, 0, 0, 0, 0, 0, 0))
  | n + 1, g, i, z, q => if i < 0 then ((g, z, q)) else (if (F_X3_size (z 21)) ≤ 4 then ((g, z, q)) else (if (lg_cmp (F_X3_plain (F_X3_offOf z q i)) (p0.toInt64 * q.2.2.2.2.2.2.2.2.2.2.2.2)) ≤ 0 then ((g, z, q)) else (if ((F_X3_layTaken (upd z 21 ((z 21) &&& ((1 <<< (i &&& 31)) ^^^ (-1)))) q).1) = 0 then (L_X3_trim_39 p0 n (g + 1) (-6) (upd z 21 ((z 21) &&& ((1 <<< (i &&& 31)) ^^^ (-1)))) ((F_X3_layTaken (upd z 21 ((z 21) &&& ((1 <<< (i &&& 31)) ^^^ (-1)))) q).2)) else (L_X3_trim_39 p0 n (g + 1) (F_X3_worstOf (upd z 21 ((z 21) &&& ((1 <<< (i &&& 31)) ^^^ (-1)))) ((F_X3_layTaken (upd z 21 ((z 21) &&& ((1 <<< (i &&& 31)) ^^^ (-1)))) q).2) ((upd z 21 ((z 21) &&& ((1 <<< (i &&& 31)) ^^^ (-1)))) 21)) (upd z 21 ((z 21) &&& ((1 <<< (i &&& 31)) ^^^ (-1)))) ((F_X3_layTaken (upd z 21 ((z 21) &&& ((1 <<< (i &&& 31)) ^^^ (-1)))) q).2)))))
def F_X3_trim (st : Nat → Int32) (md : Rd) (p0 : Int32) : Int32 × (Nat → Int32) × Rd := if (F_X3_in p0.toInt64 0 9999) = 0 then (((-2), st, md)) else (if ((F_X3_layTaken st md).1) = 0 then (((-5), st, (F_X3_layTaken st md).2)) else (L_X3_trim_39 p0 11 0 (F_X3_worstOf st ((F_X3_layTaken st md).2) (st 21)) st ((F_X3_layTaken st md).2)))
theorem iX3_trim_X3 : ∀ w ∈ u_ws RX3 TX3 16, w ∈ wsX3_trim := fun _ h => List.mem_cons_of_mem _ (List.mem_append_right _ (h))
set_option maxHeartbeats 4000000 in
set_option maxRecDepth 100000 in
theorem c_X3_trim (l : Launch) (D : va_G) (cI cZ : ClassId) (h0 ast aim akt : Nat) (st : Nat → Int32) (md : Rd) (p0 : Int32) (hm : MB st) : CTi l yX3_trim wsX3_trim ({ frames := 5, cells := 0, slots := 0, locals := 107 } : Room) D cI cZ [.ref h0, .int p0] [(h0, .inr (3, mdv ast aim akt md)), (ast, .inl (cI, 23, .inl st))] (S := (Nat → Int32) × Rd) (fun z9 u9 => F_X3_trim st md p0 = (z9, u9)) (fun u => [(h0, .inr (3, mdv ast aim akt u.2)), (ast, .inl (cI, 23, .inl u.1))]) := by
  refine enterM (cc := cX3_trim) (maxL := 4) (ret := (some .int)) (own := RX3) (Qc := fun A => va_Qi (S := (Nat → Int32) × Rd) (fun z9 u9 => F_X3_trim st md p0 = (z9, u9)) (PoB (S := (Nat → Int32) × Rd) D A (fun u => [(h0, .inr (3, mdv ast aim akt u.2)), (ast, .inl (cI, 23, .inl u.1))])) A) (by decide) rfl rfl (Nat.le_of_ble_eq_true rfl) ?_
  intro p e s m below meth c A ls C hK hA hP hD hS hl
  have hx := C.1
  have hb := C.2.1
  have hown := C.2.2.2.1
  have hts := C.2.2.2.2.1
  have _huse := hts
  have K39 : ∀ (n : Nat) (g : Int32) (i : Int32) (z : Nat → Int32) (q : Rd) (_ : MB z) (_ : i = F_X3_worstOf z q (z 21) ∨ i = -6) (_ : (F_X3_size (z 21)).toInt < (n : Int)) (X : Int32 × (Nat → Int32) × Rd) (_ : X = L_X3_trim_39 p0 n g i z q) (H : Heap) (locs : List Loc) (_ : va_P D classes [(h0, .inr (3, mdv ast aim akt q)), (ast, .inl (cI, 23, .inl z))] H) (_ : va_D A [(h0, .inr (3, mdv ast aim akt q)), (ast, .inl (cI, 23, .inl z))]) (_ : va_S A s.heap H locs) (ls : Array Slot) (_ : lv_has ls 4 [(0, .ref h0), (1, .int p0), (2, .int g), (3, .int i)]), W p l e ({ frames := 5, cells := 0, slots := 0, locals := 107 } : Room) s m [.ref h0, .int p0].toArray below meth c H locs 0 0 (MQ below (va_Qi (S := (Nat → Int32) × Rd) (fun z9 u9 => X = (z9, u9)) (PoB (S := (Nat → Int32) × Rd) D A (fun u => [(h0, .inr (3, mdv ast aim akt u.2)), (ast, .inl (cI, 23, .inl u.1))])) A) [.ref h0, .int p0].toArray s 0 0 A) (F0 m 39 ls []) := by
    intro n
    induction n with
    | zero =>
      intro g i z q hmz hv hfu X hX H locs hP hD hS ls hl
      exact absurd hfu (Int.not_lt.mpr (size_ge0 _))
    | succ n ih =>
      intro g i z q hmz hv hfu X hX H locs hP hD hS ls hl
      refine lv_iload_n hx hb dX3_trim_39 rfl (lv_at hl 3 rfl) ?_
      refine lv_if_lt (tgt := 121) hx hb dX3_trim_40 (by decide) (fun c_40 => ?_) (fun c_40 => ?_)
      · refine lv_iload_n hx hb dX3_trim_121 rfl (lv_at hl 2 rfl) ?_
        exact ret_i C (z, q) (hX.trans ((if_pos c_40))) hP hD hS dX3_trim_122
      · refine lv_aload_n hx hb dX3_trim_43 rfl (lv_at hl 0 rfl) ?_
        refine va_get (D := D) (ci := 3) (v := .ref ast) (C := RX3) (T := TX3) (N := 16) hx hb hts iX3_trim_X3 hown hK.1 hP 0 rfl rfl 0 (by decide) (hts (.fieldLink RX3 7 "CompassBiasModel" "state" "[I") (List.mem_of_getElem? (i := 2) rfl)) (fun _ h9 => h9) rfl dX3_trim_44 ?_
        refine lv_bipush (v := 21) hx hb dX3_trim_47 (by decide) ?_
        refine va_iald hx hb hK.1 hP 1 0 rfl rfl (vp_lit (by decide)) dX3_trim_49 ?_
        refine W.eq (g2 := F0 m 50 ls [.int (z 21)]) rfl ?_
        refine aft_i (wr := [(h0, .inr (3, mdv ast aim akt q)), (ast, .inl (cI, 23, .inl z))]) (run_S (As := [.int (z 21)]) (rest := []) C (c_X3_size l D cI cZ (z 21)) (va_cwS 1 hts gX3_trim_X3_size rfl rfl rfl (by decide +kernel) ⟨Nat.le_of_ble_eq_true rfl, Nat.le_of_ble_eq_true rfl⟩) hK (hP.sub (ws' := []) [] rfl) (hD.sub (ws' := []) [] (by decide) rfl) rfl hl.1 rfl (Nat.le_of_ble_eq_true rfl) dX3_trim_50 (Nat.zero_le _) (Nat.zero_le _)) hP hD hS hA [] [0, 1] rfl rfl (by decide) (by decide) (fun z9 u9 H locs hw hP hD hS => ?_)
        subst hw
        have hP : va_P D classes [(h0, .inr (3, mdv ast aim akt q)), (ast, .inl (cI, 23, .inl z))] H := hP
        have hD : va_D A [(h0, .inr (3, mdv ast aim akt q)), (ast, .inl (cI, 23, .inl z))] := hD
        refine lv_iconst (v := 4) hx hb dX3_trim_53 (by decide) ?_
        refine lv_icmp_le (tgt := 121) hx hb dX3_trim_54 (by decide) (fun c_54 => ?_) (fun c_54 => ?_)
        · refine lv_iload_n hx hb dX3_trim_121 rfl (lv_at hl 2 rfl) ?_
          exact ret_i C (z, q) (hX.trans ((if_neg c_40).trans ((if_pos c_54)))) hP hD hS dX3_trim_122
        · refine lv_aload_n hx hb dX3_trim_57 rfl (lv_at hl 0 rfl) ?_
          refine lv_iload_n hx hb dX3_trim_58 rfl (lv_at hl 3 rfl) ?_
          refine aft_l (wr := []) (run_V (As := [.int i]) (rest := []) C (c_X3_offOf l D cI cZ h0 ast aim akt z q i (trim_vx hmz hv c_40) (trim_vy hmz hv c_40)) (cwV 1 hts gX3_trim_X3_offOf rfl rfl rfl (by decide +kernel) ⟨Nat.le_of_ble_eq_true rfl, Nat.le_of_ble_eq_true rfl⟩) hK (hP.sub (ws' := [(h0, .inr (3, mdv ast aim akt q)), (ast, .inl (cI, 23, .inl z))]) [0, 1] rfl) (hD.sub (ws' := [(h0, .inr (3, mdv ast aim akt q)), (ast, .inl (cI, 23, .inl z))]) [0, 1] (by decide) rfl) 0 3 rfl rfl rfl rfl hl.1 rfl (Nat.le_of_ble_eq_true rfl) dX3_trim_59 (Nat.zero_le _) (Nat.zero_le _)) hP hD hS hA [0, 1] [] rfl rfl (by decide) (by decide) (fun z9 u9 H locs hw hP hD hS => ?_)
          subst hw
          have hP : va_P D classes [(h0, .inr (3, mdv ast aim akt q)), (ast, .inl (cI, 23, .inl z))] H := hP
          have hD : va_D A [(h0, .inr (3, mdv ast aim akt q)), (ast, .inl (cI, 23, .inl z))] := hD
          refine aft_l (wr := [(h0, .inr (3, mdv ast aim akt q)), (ast, .inl (cI, 23, .inl z))]) (run_S (As := [.long (F_X3_offOf z q i)]) (rest := []) C (c_X3_plain l D cI cZ (F_X3_offOf z q i)) (va_cwS 1 hts gX3_trim_X3_plain rfl rfl rfl (by decide +kernel) ⟨Nat.le_of_ble_eq_true rfl, Nat.le_of_ble_eq_true rfl⟩) hK (hP.sub (ws' := []) [] rfl) (hD.sub (ws' := []) [] (by decide) rfl) rfl hl.1 rfl (Nat.le_of_ble_eq_true rfl) dX3_trim_62 (Nat.zero_le _) (Nat.zero_le _)) hP hD hS hA [] [0, 1] rfl rfl (by decide) (by decide) (fun z9 u9 H locs hw hP hD hS => ?_)
          subst hw
          have hP : va_P D classes [(h0, .inr (3, mdv ast aim akt q)), (ast, .inl (cI, 23, .inl z))] H := hP
          have hD : va_D A [(h0, .inr (3, mdv ast aim akt q)), (ast, .inl (cI, 23, .inl z))] := hD
          refine lv_iload_n hx hb dX3_trim_65 rfl (lv_at hl 1 rfl) ?_
          refine lv_i2l (v := p0.toInt64) hx hb dX3_trim_66 rfl ?_
          refine lv_aload_n hx hb dX3_trim_67 rfl (lv_at hl 0 rfl) ?_
          refine va_get (D := D) (ci := 3) (v := .long q.2.2.2.2.2.2.2.2.2.2.2.2) (C := RX3) (T := TX3) (N := 16) hx hb hts iX3_trim_X3 hown hK.1 hP 0 rfl rfl 15 (by decide) (hts (.fieldLink RX3 80 "CompassBiasModel" "by" "J") (List.mem_of_getElem? (i := 3) rfl)) (fun _ h9 => h9) rfl dX3_trim_68 ?_
          refine lv_lmul hx hb dX3_trim_71 ?_
          refine W.lcmp hx hb dX3_trim_72 ?_
          refine lv_if_le (tgt := 121) hx hb dX3_trim_73 (by decide) (fun c_73 => ?_) (fun c_73 => ?_)
          · refine lv_iload_n hx hb dX3_trim_121 rfl (lv_at hl 2 rfl) ?_
            exact ret_i C (z, q) (hX.trans ((if_neg c_40).trans ((if_neg c_54).trans ((if_pos c_73))))) hP hD hS dX3_trim_122
          · refine lv_aload_n hx hb dX3_trim_76 rfl (lv_at hl 0 rfl) ?_
            refine va_get (D := D) (ci := 3) (v := .ref ast) (C := RX3) (T := TX3) (N := 16) hx hb hts iX3_trim_X3 hown hK.1 hP 0 rfl rfl 0 (by decide) (hts (.fieldLink RX3 7 "CompassBiasModel" "state" "[I") (List.mem_of_getElem? (i := 2) rfl)) (fun _ h9 => h9) rfl dX3_trim_77 ?_
            refine lv_bipush (v := 21) hx hb dX3_trim_80 (by decide) ?_
            refine lv_dup2_11 hx hb dX3_trim_82 rfl rfl ?_
            refine va_iald hx hb hK.1 hP 1 0 rfl rfl (vp_lit (by decide)) dX3_trim_83 ?_
            refine W.eq (g2 := F0 m 84 ls [.int (z 21), .int 21, .ref ast]) rfl ?_
            refine lv_iconst (v := 1) hx hb dX3_trim_84 (by decide) ?_
            refine lv_iload_n hx hb dX3_trim_85 rfl (lv_at hl 3 rfl) ?_
            refine lv_ishl hx hb dX3_trim_86 ?_
            refine lv_iconst (v := (-1)) hx hb dX3_trim_87 (by decide) ?_
            refine lv_ixor hx hb dX3_trim_88 ?_
            refine lv_iand hx hb dX3_trim_89 ?_
            refine va_iast hx hb hK.1 hP hD hS 1 0 rfl rfl (vp_lit (by decide)) dX3_trim_90 (fun H locs hP hD hS => ?_)
            have hP : va_P D classes [(h0, .inr (3, mdv ast aim akt q)), (ast, .inl (cI, 23, .inl (upd z 21 ((z 21) &&& ((1 <<< (i &&& 31)) ^^^ (-1))))))] H := hP
            have hD : va_D A [(h0, .inr (3, mdv ast aim akt q)), (ast, .inl (cI, 23, .inl (upd z 21 ((z 21) &&& ((1 <<< (i &&& 31)) ^^^ (-1))))))] := hD
            refine lv_iinc (v := g + 1) (lv' := [(2, .int (g + 1)), (0, .ref h0), (1, .int p0), (3, .int i)]) hx hb dX3_trim_91 hl (k := 2) rfl rfl (by decide) rfl (fun ls hl => ?_)
            refine lv_aload_n hx hb dX3_trim_94 rfl (lv_at hl 1 rfl) ?_
            refine aft_i (wr := []) (run_V (As := []) (rest := []) C (c_X3_layTaken l D cI cZ h0 ast aim akt (upd z 21 ((z 21) &&& ((1 <<< (i &&& 31)) ^^^ (-1)))) q (MB_21 hmz)) (cwV 0 hts gX3_trim_X3_layTaken rfl rfl rfl (by decide +kernel) ⟨Nat.le_of_ble_eq_true rfl, Nat.le_of_ble_eq_true rfl⟩) hK (hP.sub (ws' := [(h0, .inr (3, mdv ast aim akt q)), (ast, .inl (cI, 23, .inl (upd z 21 ((z 21) &&& ((1 <<< (i &&& 31)) ^^^ (-1))))))]) [0, 1] rfl) (hD.sub (ws' := [(h0, .inr (3, mdv ast aim akt q)), (ast, .inl (cI, 23, .inl (upd z 21 ((z 21) &&& ((1 <<< (i &&& 31)) ^^^ (-1))))))]) [0, 1] (by decide) rfl) 0 3 rfl rfl rfl rfl hl.1 rfl (Nat.le_of_ble_eq_true rfl) dX3_trim_95 (Nat.zero_le _) (Nat.zero_le _)) hP hD hS hA [0, 1] [] rfl rfl (by decide) (by decide) (fun z9 u9 H locs hw hP hD hS => ?_)
            obtain ⟨rfl, rfl⟩ : (F_X3_layTaken (upd z 21 ((z 21) &&& ((1 <<< (i &&& 31)) ^^^ (-1)))) q).1 = z9 ∧ (F_X3_layTaken (upd z 21 ((z 21) &&& ((1 <<< (i &&& 31)) ^^^ (-1)))) q).2 = u9 := by rw [hw]; exact ⟨rfl, rfl⟩
            have hP : va_P D classes [(h0, .inr (3, mdv ast aim akt ((F_X3_layTaken (upd z 21 ((z 21) &&& ((1 <<< (i &&& 31)) ^^^ (-1)))) q).2))), (ast, .inl (cI, 23, .inl (upd z 21 ((z 21) &&& ((1 <<< (i &&& 31)) ^^^ (-1))))))] H := hP
            have hD : va_D A [(h0, .inr (3, mdv ast aim akt ((F_X3_layTaken (upd z 21 ((z 21) &&& ((1 <<< (i &&& 31)) ^^^ (-1)))) q).2))), (ast, .inl (cI, 23, .inl (upd z 21 ((z 21) &&& ((1 <<< (i &&& 31)) ^^^ (-1))))))] := hD
            refine lv_if_eq (tgt := 115) hx hb dX3_trim_98 (by decide) (fun c_98 => ?_) (fun c_98 => ?_)
            · refine lv_bipush (v := (-6)) hx hb dX3_trim_115 (by decide) ?_
              refine lv_istore_n (lv' := [(3, .int (-6)), (2, .int (g + 1)), (0, .ref h0), (1, .int p0)]) hx hb dX3_trim_117 rfl hl (by decide) rfl (fun ls hl => ?_)
              refine lv_goto (tgt := 39) hx hb dX3_trim_118 (by decide) ?_
              exact ih (g + 1) (-6) (upd z 21 ((z 21) &&& ((1 <<< (i &&& 31)) ^^^ (-1)))) ((F_X3_layTaken (upd z 21 ((z 21) &&& ((1 <<< (i &&& 31)) ^^^ (-1)))) q).2) (MB_21 hmz) (Or.inr rfl) (trim_dec hmz hv c_40 hfu) X (hX.trans ((if_neg c_40).trans ((if_neg c_54).trans ((if_neg c_73).trans ((if_pos c_98)))))) _ _ hP hD hS _ (lv_sub hl [2, 3, 1, 0] rfl)
            · refine lv_aload_n hx hb dX3_trim_101 rfl (lv_at hl 1 rfl) ?_
              refine lv_aload_n hx hb dX3_trim_102 rfl (lv_at hl 1 rfl) ?_
              refine va_get (D := D) (ci := 3) (v := .ref ast) (C := RX3) (T := TX3) (N := 16) hx hb hts iX3_trim_X3 hown hK.1 hP 0 rfl rfl 0 (by decide) (hts (.fieldLink RX3 7 "CompassBiasModel" "state" "[I") (List.mem_of_getElem? (i := 2) rfl)) (fun _ h9 => h9) rfl dX3_trim_103 ?_
              refine lv_bipush (v := 21) hx hb dX3_trim_106 (by decide) ?_
              refine va_iald hx hb hK.1 hP 1 0 rfl rfl (vp_lit (by decide)) dX3_trim_108 ?_
              refine W.eq (g2 := F0 m 109 ls [.int ((upd z 21 ((z 21) &&& ((1 <<< (i &&& 31)) ^^^ (-1)))) 21), .ref h0]) rfl ?_
              refine aft_i (wr := []) (run_V (As := [.int ((upd z 21 ((z 21) &&& ((1 <<< (i &&& 31)) ^^^ (-1)))) 21)]) (rest := []) C (c_X3_worstOf l D cI cZ h0 ast aim akt (upd z 21 ((z 21) &&& ((1 <<< (i &&& 31)) ^^^ (-1)))) ((F_X3_layTaken (upd z 21 ((z 21) &&& ((1 <<< (i &&& 31)) ^^^ (-1)))) q).2) ((upd z 21 ((z 21) &&& ((1 <<< (i &&& 31)) ^^^ (-1)))) 21) (MB_21 hmz)) (cwV 1 hts gX3_trim_X3_worstOf rfl rfl rfl (by decide +kernel) ⟨Nat.le_of_ble_eq_true rfl, Nat.le_of_ble_eq_true rfl⟩) hK (hP.sub (ws' := [(h0, .inr (3, mdv ast aim akt ((F_X3_layTaken (upd z 21 ((z 21) &&& ((1 <<< (i &&& 31)) ^^^ (-1)))) q).2))), (ast, .inl (cI, 23, .inl (upd z 21 ((z 21) &&& ((1 <<< (i &&& 31)) ^^^ (-1))))))]) [0, 1] rfl) (hD.sub (ws' := [(h0, .inr (3, mdv ast aim akt ((F_X3_layTaken (upd z 21 ((z 21) &&& ((1 <<< (i &&& 31)) ^^^ (-1)))) q).2))), (ast, .inl (cI, 23, .inl (upd z 21 ((z 21) &&& ((1 <<< (i &&& 31)) ^^^ (-1))))))]) [0, 1] (by decide) rfl) 0 3 rfl rfl rfl rfl hl.1 rfl (Nat.le_of_ble_eq_true rfl) dX3_trim_109 (Nat.zero_le _) (Nat.zero_le _)) hP hD hS hA [0, 1] [] rfl rfl (by decide) (by decide) (fun z9 u9 H locs hw hP hD hS => ?_)
              subst hw
              have hP : va_P D classes [(h0, .inr (3, mdv ast aim akt ((F_X3_layTaken (upd z 21 ((z 21) &&& ((1 <<< (i &&& 31)) ^^^ (-1)))) q).2))), (ast, .inl (cI, 23, .inl (upd z 21 ((z 21) &&& ((1 <<< (i &&& 31)) ^^^ (-1))))))] H := hP
              have hD : va_D A [(h0, .inr (3, mdv ast aim akt ((F_X3_layTaken (upd z 21 ((z 21) &&& ((1 <<< (i &&& 31)) ^^^ (-1)))) q).2))), (ast, .inl (cI, 23, .inl (upd z 21 ((z 21) &&& ((1 <<< (i &&& 31)) ^^^ (-1))))))] := hD
              refine lv_goto (tgt := 117) hx hb dX3_trim_112 (by decide) ?_
              refine lv_istore_n (lv' := [(3, .int (F_X3_worstOf (upd z 21 ((z 21) &&& ((1 <<< (i &&& 31)) ^^^ (-1)))) ((F_X3_layTaken (upd z 21 ((z 21) &&& ((1 <<< (i &&& 31)) ^^^ (-1)))) q).2) ((upd z 21 ((z 21) &&& ((1 <<< (i &&& 31)) ^^^ (-1)))) 21))), (2, .int (g + 1)), (0, .ref h0), (1, .int p0)]) hx hb dX3_trim_117 rfl hl (by decide) rfl (fun ls hl => ?_)
              refine lv_goto (tgt := 39) hx hb dX3_trim_118 (by decide) ?_
              exact ih (g + 1) (F_X3_worstOf (upd z 21 ((z 21) &&& ((1 <<< (i &&& 31)) ^^^ (-1)))) ((F_X3_layTaken (upd z 21 ((z 21) &&& ((1 <<< (i &&& 31)) ^^^ (-1)))) q).2) ((upd z 21 ((z 21) &&& ((1 <<< (i &&& 31)) ^^^ (-1)))) 21)) (upd z 21 ((z 21) &&& ((1 <<< (i &&& 31)) ^^^ (-1)))) ((F_X3_layTaken (upd z 21 ((z 21) &&& ((1 <<< (i &&& 31)) ^^^ (-1)))) q).2) (MB_21 hmz) (Or.inl rfl) (trim_dec hmz hv c_40 hfu) X (hX.trans ((if_neg c_40).trans ((if_neg c_54).trans ((if_neg c_73).trans ((if_neg c_98)))))) _ _ hP hD hS _ (lv_sub hl [2, 3, 1, 0] rfl)
  have hl : lv_has ls 4 [(0, .ref h0), (1, .int p0)] := hl
  refine lv_iload_n hx hb dX3_trim_0 rfl (lv_at hl 1 rfl) ?_
  refine lv_i2l (v := p0.toInt64) hx hb dX3_trim_1 rfl ?_
  refine lv_lconst (v := 0) hx hb dX3_trim_2 (by decide) ?_
  refine lv_ldc2 (v := 9999) hx hb hown (hts (.constantLong RX3 154 (9999)) (List.mem_of_getElem? (i := 1) rfl)) dX3_trim_3 ?_
  refine aft_i (wr := [(h0, .inr (3, mdv ast aim akt md)), (ast, .inl (cI, 23, .inl st))]) (run_S (As := [.long p0.toInt64, .long 0, .long 9999]) (rest := []) C (c_X3_in l D cI cZ p0.toInt64 0 9999) (va_cwS 3 hts gX3_trim_X3_in rfl rfl rfl (by decide +kernel) ⟨Nat.le_of_ble_eq_true rfl, Nat.le_of_ble_eq_true rfl⟩) hK (hP.sub (ws' := []) [] rfl) (hD.sub (ws' := []) [] (by decide) rfl) rfl hl.1 rfl (Nat.le_of_ble_eq_true rfl) dX3_trim_6 (Nat.zero_le _) (Nat.zero_le _)) hP hD hS hA [] [0, 1] rfl rfl (by decide) (by decide) (fun z9 u9 H locs hw hP hD hS => ?_)
  subst hw
  have hP : va_P D classes [(h0, .inr (3, mdv ast aim akt md)), (ast, .inl (cI, 23, .inl st))] H := hP
  have hD : va_D A [(h0, .inr (3, mdv ast aim akt md)), (ast, .inl (cI, 23, .inl st))] := hD
  refine lv_if_ne (tgt := 15) hx hb dX3_trim_9 (by decide) (fun c_9 => ?_) (fun c_9 => ?_)
  · refine lv_aload_n hx hb dX3_trim_15 rfl (lv_at hl 0 rfl) ?_
    refine aft_i (wr := []) (run_V (As := []) (rest := []) C (c_X3_layTaken l D cI cZ h0 ast aim akt st md hm) (cwV 0 hts gX3_trim_X3_layTaken rfl rfl rfl (by decide +kernel) ⟨Nat.le_of_ble_eq_true rfl, Nat.le_of_ble_eq_true rfl⟩) hK (hP.sub (ws' := [(h0, .inr (3, mdv ast aim akt md)), (ast, .inl (cI, 23, .inl st))]) [0, 1] rfl) (hD.sub (ws' := [(h0, .inr (3, mdv ast aim akt md)), (ast, .inl (cI, 23, .inl st))]) [0, 1] (by decide) rfl) 0 3 rfl rfl rfl rfl hl.1 rfl (Nat.le_of_ble_eq_true rfl) dX3_trim_16 (Nat.zero_le _) (Nat.zero_le _)) hP hD hS hA [0, 1] [] rfl rfl (by decide) (by decide) (fun z9 u9 H locs hw hP hD hS => ?_)
    obtain ⟨rfl, rfl⟩ : (F_X3_layTaken st md).1 = z9 ∧ (F_X3_layTaken st md).2 = u9 := by rw [hw]; exact ⟨rfl, rfl⟩
    have hP : va_P D classes [(h0, .inr (3, mdv ast aim akt ((F_X3_layTaken st md).2))), (ast, .inl (cI, 23, .inl st))] H := hP
    have hD : va_D A [(h0, .inr (3, mdv ast aim akt ((F_X3_layTaken st md).2))), (ast, .inl (cI, 23, .inl st))] := hD
    refine lv_if_ne (tgt := 25) hx hb dX3_trim_19 (by decide) (fun c_19 => ?_) (fun c_19 => ?_)
    · refine lv_iconst (v := 0) hx hb dX3_trim_25 (by decide) ?_
      refine lv_istore_n (lv' := [(2, .int 0), (0, .ref h0), (1, .int p0)]) hx hb dX3_trim_26 rfl hl (by decide) rfl (fun ls hl => ?_)
      refine lv_aload_n hx hb dX3_trim_27 rfl (lv_at hl 1 rfl) ?_
      refine lv_aload_n hx hb dX3_trim_28 rfl (lv_at hl 1 rfl) ?_
      refine va_get (D := D) (ci := 3) (v := .ref ast) (C := RX3) (T := TX3) (N := 16) hx hb hts iX3_trim_X3 hown hK.1 hP 0 rfl rfl 0 (by decide) (hts (.fieldLink RX3 7 "CompassBiasModel" "state" "[I") (List.mem_of_getElem? (i := 2) rfl)) (fun _ h9 => h9) rfl dX3_trim_29 ?_
      refine lv_bipush (v := 21) hx hb dX3_trim_32 (by decide) ?_
      refine va_iald hx hb hK.1 hP 1 0 rfl rfl (vp_lit (by decide)) dX3_trim_34 ?_
      refine W.eq (g2 := F0 m 35 ls [.int (st 21), .ref h0]) rfl ?_
      refine aft_i (wr := []) (run_V (As := [.int (st 21)]) (rest := []) C (c_X3_worstOf l D cI cZ h0 ast aim akt st ((F_X3_layTaken st md).2) (st 21) hm) (cwV 1 hts gX3_trim_X3_worstOf rfl rfl rfl (by decide +kernel) ⟨Nat.le_of_ble_eq_true rfl, Nat.le_of_ble_eq_true rfl⟩) hK (hP.sub (ws' := [(h0, .inr (3, mdv ast aim akt ((F_X3_layTaken st md).2))), (ast, .inl (cI, 23, .inl st))]) [0, 1] rfl) (hD.sub (ws' := [(h0, .inr (3, mdv ast aim akt ((F_X3_layTaken st md).2))), (ast, .inl (cI, 23, .inl st))]) [0, 1] (by decide) rfl) 0 3 rfl rfl rfl rfl hl.1 rfl (Nat.le_of_ble_eq_true rfl) dX3_trim_35 (Nat.zero_le _) (Nat.zero_le _)) hP hD hS hA [0, 1] [] rfl rfl (by decide) (by decide) (fun z9 u9 H locs hw hP hD hS => ?_)
      subst hw
      have hP : va_P D classes [(h0, .inr (3, mdv ast aim akt ((F_X3_layTaken st md).2))), (ast, .inl (cI, 23, .inl st))] H := hP
      have hD : va_D A [(h0, .inr (3, mdv ast aim akt ((F_X3_layTaken st md).2))), (ast, .inl (cI, 23, .inl st))] := hD
      refine lv_istore_n (lv' := [(3, .int (F_X3_worstOf st ((F_X3_layTaken st md).2) (st 21))), (2, .int 0), (0, .ref h0), (1, .int p0)]) hx hb dX3_trim_38 rfl hl (by decide) rfl (fun ls hl => ?_)
      exact K39 11 0 (F_X3_worstOf st ((F_X3_layTaken st md).2) (st 21)) st ((F_X3_layTaken st md).2) hm (Or.inl rfl) (size_lt11 _) (F_X3_trim st md p0) ((if_neg c_9).trans ((if_neg c_19))) _ _ hP hD hS _ (lv_sub hl [2, 3, 1, 0] rfl)
    · refine lv_bipush (v := (-5)) hx hb dX3_trim_22 (by decide) ?_
      exact ret_i C (st, (F_X3_layTaken st md).2) ((if_neg c_9).trans ((if_pos c_19))) hP hD hS dX3_trim_24
  · refine lv_bipush (v := (-2)) hx hb dX3_trim_12 (by decide) ?_
    exact ret_i C (st, md) (if_pos c_9) hP hD hS dX3_trim_14
def F_X3_isWithin (st : Nat → Int32) (md : Rd) (p0 : Int32) (p1 : Int32) : Int32 × Rd := if ((F_X3_lay st md p0).1) = 0 then ((0, (F_X3_lay st md p0).2)) else (if 0 < (lg_cmp (F_X3_plain (F_X3_offOf st ((F_X3_lay st md p0).2) (F_X3_worstOf st ((F_X3_lay st md p0).2) p0))) (p1.toInt64 * (((F_X3_lay st md p0).2).2.2.2.2.2.2.2.2.2.2.2.2))) then ((0, (F_X3_lay st md p0).2)) else ((1, (F_X3_lay st md p0).2)))
theorem iX3_isWithin_X3 : ∀ w ∈ u_ws RX3 TX3 16, w ∈ wsX3_isWithin := fun _ h => List.mem_cons_of_mem _ (List.mem_append_right _ (h))
set_option maxHeartbeats 4000000 in
set_option maxRecDepth 100000 in
theorem c_X3_isWithin (l : Launch) (D : va_G) (cI cZ : ClassId) (h0 ast aim akt : Nat) (st : Nat → Int32) (md : Rd) (p0 : Int32) (p1 : Int32) (hm : MB st) : CTi l yX3_isWithin wsX3_isWithin ({ frames := 4, cells := 0, slots := 0, locals := 87 } : Room) D cI cZ [.ref h0, .int p0, .int p1] [(h0, .inr (3, mdv ast aim akt md)), (ast, .inl (cI, 23, .inl st))] (S := Rd) (fun z9 u9 => F_X3_isWithin st md p0 p1 = (z9, u9)) (fun u => [(h0, .inr (3, mdv ast aim akt u)), (ast, .inl (cI, 23, .inl st))]) := by
  refine enterM (cc := cX3_isWithin) (maxL := 3) (ret := (some .boolean)) (own := RX3) (Qc := fun A => va_Qi (S := Rd) (fun z9 u9 => F_X3_isWithin st md p0 p1 = (z9, u9)) (PoB (S := Rd) D A (fun u => [(h0, .inr (3, mdv ast aim akt u)), (ast, .inl (cI, 23, .inl st))])) A) (by decide) rfl rfl (Nat.le_of_ble_eq_true rfl) ?_
  intro p e s m below meth c A ls C hK hA hP hD hS hl
  have hx := C.1
  have hb := C.2.1
  have hown := C.2.2.2.1
  have hts := C.2.2.2.2.1
  have _huse := hts
  have hl : lv_has ls 3 [(0, .ref h0), (1, .int p0), (2, .int p1)] := hl
  refine lv_aload_n hx hb dX3_isWithin_0 rfl (lv_at hl 0 rfl) ?_
  refine lv_iload_n hx hb dX3_isWithin_1 rfl (lv_at hl 1 rfl) ?_
  refine aft_i (wr := []) (run_V (As := [.int p0]) (rest := []) C (c_X3_lay l D cI cZ h0 ast aim akt st md p0 hm) (cwV 1 hts gX3_isWithin_X3_lay rfl rfl rfl (by decide +kernel) ⟨Nat.le_of_ble_eq_true rfl, Nat.le_of_ble_eq_true rfl⟩) hK (hP.sub (ws' := [(h0, .inr (3, mdv ast aim akt md)), (ast, .inl (cI, 23, .inl st))]) [0, 1] rfl) (hD.sub (ws' := [(h0, .inr (3, mdv ast aim akt md)), (ast, .inl (cI, 23, .inl st))]) [0, 1] (by decide) rfl) 0 3 rfl rfl rfl rfl hl.1 rfl (Nat.le_of_ble_eq_true rfl) dX3_isWithin_2 (Nat.zero_le _) (Nat.zero_le _)) hP hD hS hA [0, 1] [] rfl rfl (by decide) (by decide) (fun z9 u9 H locs hw hP hD hS => ?_)
  obtain ⟨rfl, rfl⟩ : (F_X3_lay st md p0).1 = z9 ∧ (F_X3_lay st md p0).2 = u9 := by rw [hw]; exact ⟨rfl, rfl⟩
  have hP : va_P D classes [(h0, .inr (3, mdv ast aim akt ((F_X3_lay st md p0).2))), (ast, .inl (cI, 23, .inl st))] H := hP
  have hD : va_D A [(h0, .inr (3, mdv ast aim akt ((F_X3_lay st md p0).2))), (ast, .inl (cI, 23, .inl st))] := hD
  refine lv_if_eq (tgt := 35) hx hb dX3_isWithin_5 (by decide) (fun c_5 => ?_) (fun c_5 => ?_)
  · refine lv_iconst (v := 0) hx hb dX3_isWithin_35 (by decide) ?_
    exact ret_z C (Or.inl rfl) ((F_X3_lay st md p0).2) (if_pos c_5) hP hD hS dX3_isWithin_36
  · refine lv_aload_n hx hb dX3_isWithin_8 rfl (lv_at hl 0 rfl) ?_
    refine lv_aload_n hx hb dX3_isWithin_9 rfl (lv_at hl 0 rfl) ?_
    refine lv_iload_n hx hb dX3_isWithin_10 rfl (lv_at hl 1 rfl) ?_
    refine aft_i (wr := []) (run_V (As := [.int p0]) (rest := [.ref h0]) C (c_X3_worstOf l D cI cZ h0 ast aim akt st ((F_X3_lay st md p0).2) p0 hm) (cwV 1 hts gX3_isWithin_X3_worstOf rfl rfl rfl (by decide +kernel) ⟨Nat.le_of_ble_eq_true rfl, Nat.le_of_ble_eq_true rfl⟩) hK (hP.sub (ws' := [(h0, .inr (3, mdv ast aim akt ((F_X3_lay st md p0).2))), (ast, .inl (cI, 23, .inl st))]) [0, 1] rfl) (hD.sub (ws' := [(h0, .inr (3, mdv ast aim akt ((F_X3_lay st md p0).2))), (ast, .inl (cI, 23, .inl st))]) [0, 1] (by decide) rfl) 0 3 rfl rfl rfl rfl hl.1 rfl (Nat.le_of_ble_eq_true rfl) dX3_isWithin_11 (Nat.zero_le _) (Nat.zero_le _)) hP hD hS hA [0, 1] [] rfl rfl (by decide) (by decide) (fun z9 u9 H locs hw hP hD hS => ?_)
    subst hw
    have hP : va_P D classes [(h0, .inr (3, mdv ast aim akt ((F_X3_lay st md p0).2))), (ast, .inl (cI, 23, .inl st))] H := hP
    have hD : va_D A [(h0, .inr (3, mdv ast aim akt ((F_X3_lay st md p0).2))), (ast, .inl (cI, 23, .inl st))] := hD
    refine aft_l (wr := []) (run_V (As := [.int (F_X3_worstOf st ((F_X3_lay st md p0).2) p0)]) (rest := []) C (c_X3_offOf l D cI cZ h0 ast aim akt st ((F_X3_lay st md p0).2) (F_X3_worstOf st ((F_X3_lay st md p0).2) p0) (lay_wx hm c_5) (lay_wy hm c_5)) (cwV 1 hts gX3_isWithin_X3_offOf rfl rfl rfl (by decide +kernel) ⟨Nat.le_of_ble_eq_true rfl, Nat.le_of_ble_eq_true rfl⟩) hK (hP.sub (ws' := [(h0, .inr (3, mdv ast aim akt ((F_X3_lay st md p0).2))), (ast, .inl (cI, 23, .inl st))]) [0, 1] rfl) (hD.sub (ws' := [(h0, .inr (3, mdv ast aim akt ((F_X3_lay st md p0).2))), (ast, .inl (cI, 23, .inl st))]) [0, 1] (by decide) rfl) 0 3 rfl rfl rfl rfl hl.1 rfl (Nat.le_of_ble_eq_true rfl) dX3_isWithin_14 (Nat.zero_le _) (Nat.zero_le _)) hP hD hS hA [0, 1] [] rfl rfl (by decide) (by decide) (fun z9 u9 H locs hw hP hD hS => ?_)
    subst hw
    have hP : va_P D classes [(h0, .inr (3, mdv ast aim akt ((F_X3_lay st md p0).2))), (ast, .inl (cI, 23, .inl st))] H := hP
    have hD : va_D A [(h0, .inr (3, mdv ast aim akt ((F_X3_lay st md p0).2))), (ast, .inl (cI, 23, .inl st))] := hD
    refine aft_l (wr := [(h0, .inr (3, mdv ast aim akt ((F_X3_lay st md p0).2))), (ast, .inl (cI, 23, .inl st))]) (run_S (As := [.long (F_X3_offOf st ((F_X3_lay st md p0).2) (F_X3_worstOf st ((F_X3_lay st md p0).2) p0))]) (rest := []) C (c_X3_plain l D cI cZ (F_X3_offOf st ((F_X3_lay st md p0).2) (F_X3_worstOf st ((F_X3_lay st md p0).2) p0))) (va_cwS 1 hts gX3_isWithin_X3_plain rfl rfl rfl (by decide +kernel) ⟨Nat.le_of_ble_eq_true rfl, Nat.le_of_ble_eq_true rfl⟩) hK (hP.sub (ws' := []) [] rfl) (hD.sub (ws' := []) [] (by decide) rfl) rfl hl.1 rfl (Nat.le_of_ble_eq_true rfl) dX3_isWithin_17 (Nat.zero_le _) (Nat.zero_le _)) hP hD hS hA [] [0, 1] rfl rfl (by decide) (by decide) (fun z9 u9 H locs hw hP hD hS => ?_)
    subst hw
    have hP : va_P D classes [(h0, .inr (3, mdv ast aim akt ((F_X3_lay st md p0).2))), (ast, .inl (cI, 23, .inl st))] H := hP
    have hD : va_D A [(h0, .inr (3, mdv ast aim akt ((F_X3_lay st md p0).2))), (ast, .inl (cI, 23, .inl st))] := hD
    refine lv_iload_n hx hb dX3_isWithin_20 rfl (lv_at hl 2 rfl) ?_
    refine lv_i2l (v := p1.toInt64) hx hb dX3_isWithin_21 rfl ?_
    refine lv_aload_n hx hb dX3_isWithin_22 rfl (lv_at hl 0 rfl) ?_
    refine va_get (D := D) (ci := 3) (v := .long (((F_X3_lay st md p0).2).2.2.2.2.2.2.2.2.2.2.2.2)) (C := RX3) (T := TX3) (N := 16) hx hb hts iX3_isWithin_X3 hown hK.1 hP 0 rfl rfl 15 (by decide) (hts (.fieldLink RX3 80 "CompassBiasModel" "by" "J") (List.mem_of_getElem? (i := 1) rfl)) (fun _ h9 => h9) rfl dX3_isWithin_23 ?_
    refine lv_lmul hx hb dX3_isWithin_26 ?_
    refine W.lcmp hx hb dX3_isWithin_27 ?_
    refine lv_if_gt (tgt := 35) hx hb dX3_isWithin_28 (by decide) (fun c_28 => ?_) (fun c_28 => ?_)
    · refine lv_iconst (v := 0) hx hb dX3_isWithin_35 (by decide) ?_
      exact ret_z C (Or.inl rfl) ((F_X3_lay st md p0).2) ((if_neg c_5).trans ((if_pos c_28))) hP hD hS dX3_isWithin_36
    · refine lv_iconst (v := 1) hx hb dX3_isWithin_31 (by decide) ?_
      refine lv_goto (tgt := 36) hx hb dX3_isWithin_32 (by decide) ?_
      exact ret_z C (Or.inr rfl) ((F_X3_lay st md p0).2) ((if_neg c_5).trans ((if_neg c_28))) hP hD hS dX3_isWithin_36
def L_X3_fewest_31 (st : Nat → Int32) (p0 : Int32) (p1 : Int32) : Nat → Int32 → Int32 → Rd → Int32 × Rd
  | 0, _, _, _ => (0, (0, 0, 0, 0, 0, 0, 0, 0, 0, 0, 0, 0, 0))
  | n + 1, b, i, q => if (1 <<< ((st 20) &&& 31)) ≤ i then (if b < 0 then ((b, q)) else (if p1 = 1 then ((b, q)) else ((F_X3_size b, q)))) else (if (i &&& ((st 21) ^^^ (-1))) = 0 then (if b < 0 then (if ((F_X3_isWithin st q ((st 21) &&& (i ^^^ (-1))) p0).1) = 0 then (L_X3_fewest_31 st p0 p1 n b (i + 1) ((F_X3_isWithin st q ((st 21) &&& (i ^^^ (-1))) p0).2)) else (L_X3_fewest_31 st p0 p1 n i (i + 1) ((F_X3_isWithin st q ((st 21) &&& (i ^^^ (-1))) p0).2))) else (if (F_X3_size b) ≤ (F_X3_size i) then (L_X3_fewest_31 st p0 p1 n b (i + 1) q) else (if ((F_X3_isWithin st q ((st 21) &&& (i ^^^ (-1))) p0).1) = 0 then (L_X3_fewest_31 st p0 p1 n b (i + 1) ((F_X3_isWithin st q ((st 21) &&& (i ^^^ (-1))) p0).2)) else (L_X3_fewest_31 st p0 p1 n i (i + 1) ((F_X3_isWithin st q ((st 21) &&& (i ^^^ (-1))) p0).2))))) else (L_X3_fewest_31 st p0 p1 n b (i + 1) q))
def F_X3_fewest (st : Nat → Int32) (md : Rd) (p0 : Int32) (p1 : Int32) : Int32 × Rd := if (F_X3_in p0.toInt64 0 9999) = 0 then (((-2), md)) else (if (F_X3_in p1.toInt64 0 1) = 0 then (((-2), md)) else (L_X3_fewest_31 st p0 p1 1025 (-6) 0 md))
theorem iX3_fewest_X3 : ∀ w ∈ u_ws RX3 TX3 16, w ∈ wsX3_fewest := fun _ h => List.mem_cons_of_mem _ (List.mem_append_right _ (h))
set_option maxHeartbeats 4000000 in
set_option maxRecDepth 100000 in
theorem c_X3_fewest (l : Launch) (D : va_G) (cI cZ : ClassId) (h0 ast aim akt : Nat) (st : Nat → Int32) (md : Rd) (p0 : Int32) (p1 : Int32) (hm : MB st) : CTi l yX3_fewest wsX3_fewest ({ frames := 5, cells := 0, slots := 0, locals := 109 } : Room) D cI cZ [.ref h0, .int p0, .int p1] [(h0, .inr (3, mdv ast aim akt md)), (ast, .inl (cI, 23, .inl st))] (S := Rd) (fun z9 u9 => F_X3_fewest st md p0 p1 = (z9, u9)) (fun u => [(h0, .inr (3, mdv ast aim akt u)), (ast, .inl (cI, 23, .inl st))]) := by
  refine enterM (cc := cX3_fewest) (maxL := 6) (ret := (some .int)) (own := RX3) (Qc := fun A => va_Qi (S := Rd) (fun z9 u9 => F_X3_fewest st md p0 p1 = (z9, u9)) (PoB (S := Rd) D A (fun u => [(h0, .inr (3, mdv ast aim akt u)), (ast, .inl (cI, 23, .inl st))])) A) (by decide) rfl rfl (Nat.le_of_ble_eq_true rfl) ?_
  intro p e s m below meth c A ls C hK hA hP hD hS hl
  have hx := C.1
  have hb := C.2.1
  have hown := C.2.2.2.1
  have hts := C.2.2.2.2.1
  have _huse := hts
  have K31 : ∀ (n : Nat) (k : Nat) (b : Int32) (i : Int32) (q : Rd) (_ : i.toInt = (k : Int)) (_ : k ≤ 1024) (_ : 1024 < k + n) (X : Int32 × Rd) (_ : X = L_X3_fewest_31 st p0 p1 n b i q) (H : Heap) (locs : List Loc) (_ : va_P D classes [(h0, .inr (3, mdv ast aim akt q)), (ast, .inl (cI, 23, .inl st))] H) (_ : va_D A [(h0, .inr (3, mdv ast aim akt q)), (ast, .inl (cI, 23, .inl st))]) (_ : va_S A s.heap H locs) (ls : Array Slot) (_ : lv_has ls 6 [(0, .ref h0), (1, .int p0), (2, .int p1), (3, .int b), (4, .int i)]), W p l e ({ frames := 5, cells := 0, slots := 0, locals := 109 } : Room) s m [.ref h0, .int p0, .int p1].toArray below meth c H locs 0 0 (MQ below (va_Qi (S := Rd) (fun z9 u9 => X = (z9, u9)) (PoB (S := Rd) D A (fun u => [(h0, .inr (3, mdv ast aim akt u)), (ast, .inl (cI, 23, .inl st))])) A) [.ref h0, .int p0, .int p1].toArray s 0 0 A) (F0 m 31 ls []) := by
    intro n
    induction n with
    | zero =>
      intro k b i q hi hk hfu X hX H locs hP hD hS ls hl
      exact absurd hfu (by omega)
    | succ n ih =>
      intro k b i q hi hk hfu X hX H locs hP hD hS ls hl
      refine lv_iload hx hb dX3_fewest_31 (lv_at hl 4 rfl) ?_
      refine lv_iconst (v := 1) hx hb dX3_fewest_33 (by decide) ?_
      refine lv_aload_n hx hb dX3_fewest_34 rfl (lv_at hl 0 rfl) ?_
      refine va_get (D := D) (ci := 3) (v := .ref ast) (C := RX3) (T := TX3) (N := 16) hx hb hts iX3_fewest_X3 hown hK.1 hP 0 rfl rfl 0 (by decide) (hts (.fieldLink RX3 7 "CompassBiasModel" "state" "[I") (List.mem_of_getElem? (i := 2) rfl)) (fun _ h9 => h9) rfl dX3_fewest_35 ?_
      refine lv_bipush (v := 20) hx hb dX3_fewest_38 (by decide) ?_
      refine va_iald hx hb hK.1 hP 1 0 rfl rfl (vp_lit (by decide)) dX3_fewest_40 ?_
      refine W.eq (g2 := F0 m 41 ls [.int (st 20), .int 1, .int i]) rfl ?_
      refine lv_ishl hx hb dX3_fewest_41 ?_
      refine lv_icmp_ge (tgt := 121) hx hb dX3_fewest_42 (by decide) (fun c_42 => ?_) (fun c_42 => ?_)
      · refine lv_iload_n hx hb dX3_fewest_121 rfl (lv_at hl 3 rfl) ?_
        refine lv_if_lt (tgt := 130) hx hb dX3_fewest_122 (by decide) (fun c_122 => ?_) (fun c_122 => ?_)
        · refine lv_iload_n hx hb dX3_fewest_130 rfl (lv_at hl 3 rfl) ?_
          refine lv_goto (tgt := 138) hx hb dX3_fewest_131 (by decide) ?_
          exact ret_i C q (hX.trans ((if_pos c_42).trans ((if_pos c_122)))) hP hD hS dX3_fewest_138
        · refine lv_iload_n hx hb dX3_fewest_125 rfl (lv_at hl 2 rfl) ?_
          refine lv_iconst (v := 1) hx hb dX3_fewest_126 (by decide) ?_
          refine lv_icmp_ne (tgt := 134) hx hb dX3_fewest_127 (by decide) (fun c_127 => ?_) (fun c_127 => ?_)
          · refine lv_iload_n hx hb dX3_fewest_134 rfl (lv_at hl 3 rfl) ?_
            refine aft_i (wr := [(h0, .inr (3, mdv ast aim akt q)), (ast, .inl (cI, 23, .inl st))]) (run_S (As := [.int b]) (rest := []) C (c_X3_size l D cI cZ b) (va_cwS 1 hts gX3_fewest_X3_size rfl rfl rfl (by decide +kernel) ⟨Nat.le_of_ble_eq_true rfl, Nat.le_of_ble_eq_true rfl⟩) hK (hP.sub (ws' := []) [] rfl) (hD.sub (ws' := []) [] (by decide) rfl) rfl hl.1 rfl (Nat.le_of_ble_eq_true rfl) dX3_fewest_135 (Nat.zero_le _) (Nat.zero_le _)) hP hD hS hA [] [0, 1] rfl rfl (by decide) (by decide) (fun z9 u9 H locs hw hP hD hS => ?_)
            subst hw
            have hP : va_P D classes [(h0, .inr (3, mdv ast aim akt q)), (ast, .inl (cI, 23, .inl st))] H := hP
            have hD : va_D A [(h0, .inr (3, mdv ast aim akt q)), (ast, .inl (cI, 23, .inl st))] := hD
            exact ret_i C q (hX.trans ((if_pos c_42).trans ((if_neg c_122).trans ((if_neg c_127))))) hP hD hS dX3_fewest_138
          · refine lv_iload_n hx hb dX3_fewest_130 rfl (lv_at hl 3 rfl) ?_
            refine lv_goto (tgt := 138) hx hb dX3_fewest_131 (by decide) ?_
            exact ret_i C q (hX.trans ((if_pos c_42).trans ((if_neg c_122).trans ((if_pos c_127))))) hP hD hS dX3_fewest_138
      · refine lv_iload hx hb dX3_fewest_45 (lv_at hl 4 rfl) ?_
        refine lv_aload_n hx hb dX3_fewest_47 rfl (lv_at hl 0 rfl) ?_
        refine va_get (D := D) (ci := 3) (v := .ref ast) (C := RX3) (T := TX3) (N := 16) hx hb hts iX3_fewest_X3 hown hK.1 hP 0 rfl rfl 0 (by decide) (hts (.fieldLink RX3 7 "CompassBiasModel" "state" "[I") (List.mem_of_getElem? (i := 2) rfl)) (fun _ h9 => h9) rfl dX3_fewest_48 ?_
        refine lv_bipush (v := 21) hx hb dX3_fewest_51 (by decide) ?_
        refine va_iald hx hb hK.1 hP 1 0 rfl rfl (vp_lit (by decide)) dX3_fewest_53 ?_
        refine W.eq (g2 := F0 m 54 ls [.int (st 21), .int i]) rfl ?_
        refine lv_iconst (v := (-1)) hx hb dX3_fewest_54 (by decide) ?_
        refine lv_ixor hx hb dX3_fewest_55 ?_
        refine lv_iand hx hb dX3_fewest_56 ?_
        refine lv_if_ne (tgt := 80) hx hb dX3_fewest_57 (by decide) (fun c_57 => ?_) (fun c_57 => ?_)
        · refine lv_iconst (v := 0) hx hb dX3_fewest_80 (by decide) ?_
          refine lv_istore (lv' := [(5, .int 0), (0, .ref h0), (1, .int p0), (2, .int p1), (3, .int b), (4, .int i)]) hx hb dX3_fewest_81 hl (by decide) rfl (fun ls hl => ?_)
          refine lv_iload hx hb dX3_fewest_83 (lv_at hl 0 rfl) ?_
          refine lv_if_eq (tgt := 113) hx hb dX3_fewest_85 (by decide) (fun _ => ?_) (fun c9 => absurd (by decide) c9)
          refine lv_iload_n hx hb dX3_fewest_113 rfl (lv_at hl 4 rfl) ?_
          refine lv_istore_n (lv' := [(3, .int b), (5, .int 0), (0, .ref h0), (1, .int p0), (2, .int p1), (4, .int i)]) hx hb dX3_fewest_114 rfl hl (by decide) rfl (fun ls hl => ?_)
          refine lv_iinc (v := i + 1) (lv' := [(4, .int (i + 1)), (3, .int b), (5, .int 0), (0, .ref h0), (1, .int p0), (2, .int p1)]) hx hb dX3_fewest_115 hl (k := 5) rfl rfl (by decide) rfl (fun ls hl => ?_)
          refine lv_goto (tgt := 31) hx hb dX3_fewest_118 (by decide) ?_
          exact ih (k + 1) b (i + 1) q (i_succ hi (by omega)) (i_ltSh hm hi c_42) (by omega) X (hX.trans ((if_neg c_42).trans ((if_neg c_57)))) _ _ hP hD hS _ (lv_sub hl [3, 4, 5, 1, 0] rfl)
        · refine lv_iload_n hx hb dX3_fewest_60 rfl (lv_at hl 3 rfl) ?_
          refine lv_if_lt (tgt := 76) hx hb dX3_fewest_61 (by decide) (fun c_61 => ?_) (fun c_61 => ?_)
          · refine lv_iconst (v := 1) hx hb dX3_fewest_76 (by decide) ?_
            refine lv_goto (tgt := 81) hx hb dX3_fewest_77 (by decide) ?_
            refine lv_istore (lv' := [(5, .int 1), (0, .ref h0), (1, .int p0), (2, .int p1), (3, .int b), (4, .int i)]) hx hb dX3_fewest_81 hl (by decide) rfl (fun ls hl => ?_)
            refine lv_iload hx hb dX3_fewest_83 (lv_at hl 0 rfl) ?_
            refine lv_if_eq (tgt := 113) hx hb dX3_fewest_85 (by decide) (fun c9 => absurd c9 (by decide)) (fun _ => ?_)
            refine lv_aload_n hx hb dX3_fewest_88 rfl (lv_at hl 1 rfl) ?_
            refine lv_aload_n hx hb dX3_fewest_89 rfl (lv_at hl 1 rfl) ?_
            refine va_get (D := D) (ci := 3) (v := .ref ast) (C := RX3) (T := TX3) (N := 16) hx hb hts iX3_fewest_X3 hown hK.1 hP 0 rfl rfl 0 (by decide) (hts (.fieldLink RX3 7 "CompassBiasModel" "state" "[I") (List.mem_of_getElem? (i := 2) rfl)) (fun _ h9 => h9) rfl dX3_fewest_90 ?_
            refine lv_bipush (v := 21) hx hb dX3_fewest_93 (by decide) ?_
            refine va_iald hx hb hK.1 hP 1 0 rfl rfl (vp_lit (by decide)) dX3_fewest_95 ?_
            refine W.eq (g2 := F0 m 96 ls [.int (st 21), .ref h0]) rfl ?_
            refine lv_iload hx hb dX3_fewest_96 (lv_at hl 5 rfl) ?_
            refine lv_iconst (v := (-1)) hx hb dX3_fewest_98 (by decide) ?_
            refine lv_ixor hx hb dX3_fewest_99 ?_
            refine lv_iand hx hb dX3_fewest_100 ?_
            refine lv_iload_n hx hb dX3_fewest_101 rfl (lv_at hl 2 rfl) ?_
            refine aft_i (wr := []) (run_V (As := [.int ((st 21) &&& (i ^^^ (-1))), .int p0]) (rest := []) C (c_X3_isWithin l D cI cZ h0 ast aim akt st q ((st 21) &&& (i ^^^ (-1))) p0 hm) (cwV 2 hts gX3_fewest_X3_isWithin rfl rfl rfl (by decide +kernel) ⟨Nat.le_of_ble_eq_true rfl, Nat.le_of_ble_eq_true rfl⟩) hK (hP.sub (ws' := [(h0, .inr (3, mdv ast aim akt q)), (ast, .inl (cI, 23, .inl st))]) [0, 1] rfl) (hD.sub (ws' := [(h0, .inr (3, mdv ast aim akt q)), (ast, .inl (cI, 23, .inl st))]) [0, 1] (by decide) rfl) 0 3 rfl rfl rfl rfl hl.1 rfl (Nat.le_of_ble_eq_true rfl) dX3_fewest_102 (Nat.zero_le _) (Nat.zero_le _)) hP hD hS hA [0, 1] [] rfl rfl (by decide) (by decide) (fun z9 u9 H locs hw hP hD hS => ?_)
            obtain ⟨rfl, rfl⟩ : (F_X3_isWithin st q ((st 21) &&& (i ^^^ (-1))) p0).1 = z9 ∧ (F_X3_isWithin st q ((st 21) &&& (i ^^^ (-1))) p0).2 = u9 := by rw [hw]; exact ⟨rfl, rfl⟩
            have hP : va_P D classes [(h0, .inr (3, mdv ast aim akt ((F_X3_isWithin st q ((st 21) &&& (i ^^^ (-1))) p0).2))), (ast, .inl (cI, 23, .inl st))] H := hP
            have hD : va_D A [(h0, .inr (3, mdv ast aim akt ((F_X3_isWithin st q ((st 21) &&& (i ^^^ (-1))) p0).2))), (ast, .inl (cI, 23, .inl st))] := hD
            refine lv_if_eq (tgt := 113) hx hb dX3_fewest_105 (by decide) (fun c_105 => ?_) (fun c_105 => ?_)
            · refine lv_iload_n hx hb dX3_fewest_113 rfl (lv_at hl 4 rfl) ?_
              refine lv_istore_n (lv' := [(3, .int b), (5, .int 1), (0, .ref h0), (1, .int p0), (2, .int p1), (4, .int i)]) hx hb dX3_fewest_114 rfl hl (by decide) rfl (fun ls hl => ?_)
              refine lv_iinc (v := i + 1) (lv' := [(4, .int (i + 1)), (3, .int b), (5, .int 1), (0, .ref h0), (1, .int p0), (2, .int p1)]) hx hb dX3_fewest_115 hl (k := 5) rfl rfl (by decide) rfl (fun ls hl => ?_)
              refine lv_goto (tgt := 31) hx hb dX3_fewest_118 (by decide) ?_
              exact ih (k + 1) b (i + 1) ((F_X3_isWithin st q ((st 21) &&& (i ^^^ (-1))) p0).2) (i_succ hi (by omega)) (i_ltSh hm hi c_42) (by omega) X (hX.trans ((if_neg c_42).trans ((if_pos c_57).trans ((if_pos c_61).trans ((if_pos c_105)))))) _ _ hP hD hS _ (lv_sub hl [3, 4, 5, 1, 0] rfl)
            · refine lv_iload hx hb dX3_fewest_108 (lv_at hl 5 rfl) ?_
              refine lv_goto (tgt := 114) hx hb dX3_fewest_110 (by decide) ?_
              refine lv_istore_n (lv' := [(3, .int i), (5, .int 1), (0, .ref h0), (1, .int p0), (2, .int p1), (4, .int i)]) hx hb dX3_fewest_114 rfl hl (by decide) rfl (fun ls hl => ?_)
              refine lv_iinc (v := i + 1) (lv' := [(4, .int (i + 1)), (3, .int i), (5, .int 1), (0, .ref h0), (1, .int p0), (2, .int p1)]) hx hb dX3_fewest_115 hl (k := 5) rfl rfl (by decide) rfl (fun ls hl => ?_)
              refine lv_goto (tgt := 31) hx hb dX3_fewest_118 (by decide) ?_
              exact ih (k + 1) i (i + 1) ((F_X3_isWithin st q ((st 21) &&& (i ^^^ (-1))) p0).2) (i_succ hi (by omega)) (i_ltSh hm hi c_42) (by omega) X (hX.trans ((if_neg c_42).trans ((if_pos c_57).trans ((if_pos c_61).trans ((if_neg c_105)))))) _ _ hP hD hS _ (lv_sub hl [3, 4, 5, 1, 0] rfl)
          · refine lv_iload hx hb dX3_fewest_64 (lv_at hl 4 rfl) ?_
            refine aft_i (wr := [(h0, .inr (3, mdv ast aim akt q)), (ast, .inl (cI, 23, .inl st))]) (run_S (As := [.int i]) (rest := []) C (c_X3_size l D cI cZ i) (va_cwS 1 hts gX3_fewest_X3_size rfl rfl rfl (by decide +kernel) ⟨Nat.le_of_ble_eq_true rfl, Nat.le_of_ble_eq_true rfl⟩) hK (hP.sub (ws' := []) [] rfl) (hD.sub (ws' := []) [] (by decide) rfl) rfl hl.1 rfl (Nat.le_of_ble_eq_true rfl) dX3_fewest_66 (Nat.zero_le _) (Nat.zero_le _)) hP hD hS hA [] [0, 1] rfl rfl (by decide) (by decide) (fun z9 u9 H locs hw hP hD hS => ?_)
            subst hw
            have hP : va_P D classes [(h0, .inr (3, mdv ast aim akt q)), (ast, .inl (cI, 23, .inl st))] H := hP
            have hD : va_D A [(h0, .inr (3, mdv ast aim akt q)), (ast, .inl (cI, 23, .inl st))] := hD
            refine lv_iload_n hx hb dX3_fewest_69 rfl (lv_at hl 3 rfl) ?_
            refine aft_i (wr := [(h0, .inr (3, mdv ast aim akt q)), (ast, .inl (cI, 23, .inl st))]) (run_S (As := [.int b]) (rest := [.int (F_X3_size i)]) C (c_X3_size l D cI cZ b) (va_cwS 1 hts gX3_fewest_X3_size rfl rfl rfl (by decide +kernel) ⟨Nat.le_of_ble_eq_true rfl, Nat.le_of_ble_eq_true rfl⟩) hK (hP.sub (ws' := []) [] rfl) (hD.sub (ws' := []) [] (by decide) rfl) rfl hl.1 rfl (Nat.le_of_ble_eq_true rfl) dX3_fewest_70 (Nat.zero_le _) (Nat.zero_le _)) hP hD hS hA [] [0, 1] rfl rfl (by decide) (by decide) (fun z9 u9 H locs hw hP hD hS => ?_)
            subst hw
            have hP : va_P D classes [(h0, .inr (3, mdv ast aim akt q)), (ast, .inl (cI, 23, .inl st))] H := hP
            have hD : va_D A [(h0, .inr (3, mdv ast aim akt q)), (ast, .inl (cI, 23, .inl st))] := hD
            refine lv_icmp_ge (tgt := 80) hx hb dX3_fewest_73 (by decide) (fun c_73 => ?_) (fun c_73 => ?_)
            · refine lv_iconst (v := 0) hx hb dX3_fewest_80 (by decide) ?_
              refine lv_istore (lv' := [(5, .int 0), (0, .ref h0), (1, .int p0), (2, .int p1), (3, .int b), (4, .int i)]) hx hb dX3_fewest_81 hl (by decide) rfl (fun ls hl => ?_)
              refine lv_iload hx hb dX3_fewest_83 (lv_at hl 0 rfl) ?_
              refine lv_if_eq (tgt := 113) hx hb dX3_fewest_85 (by decide) (fun _ => ?_) (fun c9 => absurd (by decide) c9)
              refine lv_iload_n hx hb dX3_fewest_113 rfl (lv_at hl 4 rfl) ?_
              refine lv_istore_n (lv' := [(3, .int b), (5, .int 0), (0, .ref h0), (1, .int p0), (2, .int p1), (4, .int i)]) hx hb dX3_fewest_114 rfl hl (by decide) rfl (fun ls hl => ?_)
              refine lv_iinc (v := i + 1) (lv' := [(4, .int (i + 1)), (3, .int b), (5, .int 0), (0, .ref h0), (1, .int p0), (2, .int p1)]) hx hb dX3_fewest_115 hl (k := 5) rfl rfl (by decide) rfl (fun ls hl => ?_)
              refine lv_goto (tgt := 31) hx hb dX3_fewest_118 (by decide) ?_
              exact ih (k + 1) b (i + 1) q (i_succ hi (by omega)) (i_ltSh hm hi c_42) (by omega) X (hX.trans ((if_neg c_42).trans ((if_pos c_57).trans ((if_neg c_61).trans ((if_pos c_73)))))) _ _ hP hD hS _ (lv_sub hl [3, 4, 5, 1, 0] rfl)
            · refine lv_iconst (v := 1) hx hb dX3_fewest_76 (by decide) ?_
              refine lv_goto (tgt := 81) hx hb dX3_fewest_77 (by decide) ?_
              refine lv_istore (lv' := [(5, .int 1), (0, .ref h0), (1, .int p0), (2, .int p1), (3, .int b), (4, .int i)]) hx hb dX3_fewest_81 hl (by decide) rfl (fun ls hl => ?_)
              refine lv_iload hx hb dX3_fewest_83 (lv_at hl 0 rfl) ?_
              refine lv_if_eq (tgt := 113) hx hb dX3_fewest_85 (by decide) (fun c9 => absurd c9 (by decide)) (fun _ => ?_)
              refine lv_aload_n hx hb dX3_fewest_88 rfl (lv_at hl 1 rfl) ?_
              refine lv_aload_n hx hb dX3_fewest_89 rfl (lv_at hl 1 rfl) ?_
              refine va_get (D := D) (ci := 3) (v := .ref ast) (C := RX3) (T := TX3) (N := 16) hx hb hts iX3_fewest_X3 hown hK.1 hP 0 rfl rfl 0 (by decide) (hts (.fieldLink RX3 7 "CompassBiasModel" "state" "[I") (List.mem_of_getElem? (i := 2) rfl)) (fun _ h9 => h9) rfl dX3_fewest_90 ?_
              refine lv_bipush (v := 21) hx hb dX3_fewest_93 (by decide) ?_
              refine va_iald hx hb hK.1 hP 1 0 rfl rfl (vp_lit (by decide)) dX3_fewest_95 ?_
              refine W.eq (g2 := F0 m 96 ls [.int (st 21), .ref h0]) rfl ?_
              refine lv_iload hx hb dX3_fewest_96 (lv_at hl 5 rfl) ?_
              refine lv_iconst (v := (-1)) hx hb dX3_fewest_98 (by decide) ?_
              refine lv_ixor hx hb dX3_fewest_99 ?_
              refine lv_iand hx hb dX3_fewest_100 ?_
              refine lv_iload_n hx hb dX3_fewest_101 rfl (lv_at hl 2 rfl) ?_
              refine aft_i (wr := []) (run_V (As := [.int ((st 21) &&& (i ^^^ (-1))), .int p0]) (rest := []) C (c_X3_isWithin l D cI cZ h0 ast aim akt st q ((st 21) &&& (i ^^^ (-1))) p0 hm) (cwV 2 hts gX3_fewest_X3_isWithin rfl rfl rfl (by decide +kernel) ⟨Nat.le_of_ble_eq_true rfl, Nat.le_of_ble_eq_true rfl⟩) hK (hP.sub (ws' := [(h0, .inr (3, mdv ast aim akt q)), (ast, .inl (cI, 23, .inl st))]) [0, 1] rfl) (hD.sub (ws' := [(h0, .inr (3, mdv ast aim akt q)), (ast, .inl (cI, 23, .inl st))]) [0, 1] (by decide) rfl) 0 3 rfl rfl rfl rfl hl.1 rfl (Nat.le_of_ble_eq_true rfl) dX3_fewest_102 (Nat.zero_le _) (Nat.zero_le _)) hP hD hS hA [0, 1] [] rfl rfl (by decide) (by decide) (fun z9 u9 H locs hw hP hD hS => ?_)
              obtain ⟨rfl, rfl⟩ : (F_X3_isWithin st q ((st 21) &&& (i ^^^ (-1))) p0).1 = z9 ∧ (F_X3_isWithin st q ((st 21) &&& (i ^^^ (-1))) p0).2 = u9 := by rw [hw]; exact ⟨rfl, rfl⟩
              have hP : va_P D classes [(h0, .inr (3, mdv ast aim akt ((F_X3_isWithin st q ((st 21) &&& (i ^^^ (-1))) p0).2))), (ast, .inl (cI, 23, .inl st))] H := hP
              have hD : va_D A [(h0, .inr (3, mdv ast aim akt ((F_X3_isWithin st q ((st 21) &&& (i ^^^ (-1))) p0).2))), (ast, .inl (cI, 23, .inl st))] := hD
              refine lv_if_eq (tgt := 113) hx hb dX3_fewest_105 (by decide) (fun c_105 => ?_) (fun c_105 => ?_)
              · refine lv_iload_n hx hb dX3_fewest_113 rfl (lv_at hl 4 rfl) ?_
                refine lv_istore_n (lv' := [(3, .int b), (5, .int 1), (0, .ref h0), (1, .int p0), (2, .int p1), (4, .int i)]) hx hb dX3_fewest_114 rfl hl (by decide) rfl (fun ls hl => ?_)
                refine lv_iinc (v := i + 1) (lv' := [(4, .int (i + 1)), (3, .int b), (5, .int 1), (0, .ref h0), (1, .int p0), (2, .int p1)]) hx hb dX3_fewest_115 hl (k := 5) rfl rfl (by decide) rfl (fun ls hl => ?_)
                refine lv_goto (tgt := 31) hx hb dX3_fewest_118 (by decide) ?_
                exact ih (k + 1) b (i + 1) ((F_X3_isWithin st q ((st 21) &&& (i ^^^ (-1))) p0).2) (i_succ hi (by omega)) (i_ltSh hm hi c_42) (by omega) X (hX.trans ((if_neg c_42).trans ((if_pos c_57).trans ((if_neg c_61).trans ((if_neg c_73).trans ((if_pos c_105))))))) _ _ hP hD hS _ (lv_sub hl [3, 4, 5, 1, 0] rfl)
              · refine lv_iload hx hb dX3_fewest_108 (lv_at hl 5 rfl) ?_
                refine lv_goto (tgt := 114) hx hb dX3_fewest_110 (by decide) ?_
                refine lv_istore_n (lv' := [(3, .int i), (5, .int 1), (0, .ref h0), (1, .int p0), (2, .int p1), (4, .int i)]) hx hb dX3_fewest_114 rfl hl (by decide) rfl (fun ls hl => ?_)
                refine lv_iinc (v := i + 1) (lv' := [(4, .int (i + 1)), (3, .int i), (5, .int 1), (0, .ref h0), (1, .int p0), (2, .int p1)]) hx hb dX3_fewest_115 hl (k := 5) rfl rfl (by decide) rfl (fun ls hl => ?_)
                refine lv_goto (tgt := 31) hx hb dX3_fewest_118 (by decide) ?_
                exact ih (k + 1) i (i + 1) ((F_X3_isWithin st q ((st 21) &&& (i ^^^ (-1))) p0).2) (i_succ hi (by omega)) (i_ltSh hm hi c_42) (by omega) X (hX.trans ((if_neg c_42).trans ((if_pos c_57).trans ((if_neg c_61).trans ((if_neg c_73).trans ((if_neg c_105))))))) _ _ hP hD hS _ (lv_sub hl [3, 4, 5, 1, 0] rfl)
  have hl : lv_has ls 6 [(0, .ref h0), (1, .int p0), (2, .int p1)] := hl
  refine lv_iload_n hx hb dX3_fewest_0 rfl (lv_at hl 1 rfl) ?_
  refine lv_i2l (v := p0.toInt64) hx hb dX3_fewest_1 rfl ?_
  refine lv_lconst (v := 0) hx hb dX3_fewest_2 (by decide) ?_
  refine lv_ldc2 (v := 9999) hx hb hown (hts (.constantLong RX3 154 (9999)) (List.mem_of_getElem? (i := 1) rfl)) dX3_fewest_3 ?_
  refine aft_i (wr := [(h0, .inr (3, mdv ast aim akt md)), (ast, .inl (cI, 23, .inl st))]) (run_S (As := [.long p0.toInt64, .long 0, .long 9999]) (rest := []) C (c_X3_in l D cI cZ p0.toInt64 0 9999) (va_cwS 3 hts gX3_fewest_X3_in rfl rfl rfl (by decide +kernel) ⟨Nat.le_of_ble_eq_true rfl, Nat.le_of_ble_eq_true rfl⟩) hK (hP.sub (ws' := []) [] rfl) (hD.sub (ws' := []) [] (by decide) rfl) rfl hl.1 rfl (Nat.le_of_ble_eq_true rfl) dX3_fewest_6 (Nat.zero_le _) (Nat.zero_le _)) hP hD hS hA [] [0, 1] rfl rfl (by decide) (by decide) (fun z9 u9 H locs hw hP hD hS => ?_)
  subst hw
  have hP : va_P D classes [(h0, .inr (3, mdv ast aim akt md)), (ast, .inl (cI, 23, .inl st))] H := hP
  have hD : va_D A [(h0, .inr (3, mdv ast aim akt md)), (ast, .inl (cI, 23, .inl st))] := hD
  refine lv_if_eq (tgt := 22) hx hb dX3_fewest_9 (by decide) (fun c_9 => ?_) (fun c_9 => ?_)
  · refine lv_bipush (v := (-2)) hx hb dX3_fewest_22 (by decide) ?_
    exact ret_i C md (if_pos c_9) hP hD hS dX3_fewest_24
  · refine lv_iload_n hx hb dX3_fewest_12 rfl (lv_at hl 2 rfl) ?_
    refine lv_i2l (v := p1.toInt64) hx hb dX3_fewest_13 rfl ?_
    refine lv_lconst (v := 0) hx hb dX3_fewest_14 (by decide) ?_
    refine lv_lconst (v := 1) hx hb dX3_fewest_15 (by decide) ?_
    refine aft_i (wr := [(h0, .inr (3, mdv ast aim akt md)), (ast, .inl (cI, 23, .inl st))]) (run_S (As := [.long p1.toInt64, .long 0, .long 1]) (rest := []) C (c_X3_in l D cI cZ p1.toInt64 0 1) (va_cwS 3 hts gX3_fewest_X3_in rfl rfl rfl (by decide +kernel) ⟨Nat.le_of_ble_eq_true rfl, Nat.le_of_ble_eq_true rfl⟩) hK (hP.sub (ws' := []) [] rfl) (hD.sub (ws' := []) [] (by decide) rfl) rfl hl.1 rfl (Nat.le_of_ble_eq_true rfl) dX3_fewest_16 (Nat.zero_le _) (Nat.zero_le _)) hP hD hS hA [] [0, 1] rfl rfl (by decide) (by decide) (fun z9 u9 H locs hw hP hD hS => ?_)
    subst hw
    have hP : va_P D classes [(h0, .inr (3, mdv ast aim akt md)), (ast, .inl (cI, 23, .inl st))] H := hP
    have hD : va_D A [(h0, .inr (3, mdv ast aim akt md)), (ast, .inl (cI, 23, .inl st))] := hD
    refine lv_if_ne (tgt := 25) hx hb dX3_fewest_19 (by decide) (fun c_19 => ?_) (fun c_19 => ?_)
    · refine lv_bipush (v := (-6)) hx hb dX3_fewest_25 (by decide) ?_
      refine lv_istore_n (lv' := [(3, .int (-6)), (0, .ref h0), (1, .int p0), (2, .int p1)]) hx hb dX3_fewest_27 rfl hl (by decide) rfl (fun ls hl => ?_)
      refine lv_iconst (v := 0) hx hb dX3_fewest_28 (by decide) ?_
      refine lv_istore (lv' := [(4, .int 0), (3, .int (-6)), (0, .ref h0), (1, .int p0), (2, .int p1)]) hx hb dX3_fewest_29 hl (by decide) rfl (fun ls hl => ?_)
      exact K31 1025 0 (-6) 0 md rfl (by omega) (by omega) (F_X3_fewest st md p0 p1) ((if_neg c_9).trans ((if_neg c_19))) _ _ hP hD hS _ (lv_sub hl [2, 3, 4, 1, 0] rfl)
    · refine lv_bipush (v := (-2)) hx hb dX3_fewest_22 (by decide) ?_
      exact ret_i C md ((if_neg c_9).trans ((if_pos c_19))) hP hD hS dX3_fewest_24
