theorem law_k3 {i : Int32} {k L : Nat} (hi : i.toInt = (k : Int)) (hL : L ≤ 1536) (c : ¬ Int32.ofNat L - 3 < i) : k + 3 ≤ L := by
  have e : (-3 : Int32).toInt = -3 := by decide
  have eL : (Int32.ofNat L).toInt = (L : Int) := by rw [Int32.toInt_ofNat_of_lt (by omega)]
  have hs : Int32.ofNat L - 3 = Int32.ofNat L + (-3) := Int32.sub_eq_add_neg _ _
  rw [Int32.lt_iff_toInt_lt, hs, i_add (by omega) (by omega), eL, e] at c
  omega
theorem law_i3 {i : Int32} {k : Nat} (hi : i.toInt = (k : Int)) (hk : k < 1000000) : (i + 3).toInt = ((k + 3 : Nat) : Int) := by
  have e : (3 : Int32).toInt = 3 := by decide
  rw [i_add (by omega) (by omega), e, hi]
  omega
set_option maxHeartbeats 4000000 in
set_option maxRecDepth 100000 in
theorem law_loop {p : Program} {l : Launch} {e : Env} {s : State} {m : MethodId} {below : List Frame} {meth : Method} {c : Code} {D : va_G} {cI cZ : ClassId} {b L : Nat} {xs : Nat → Int32} {h0 hn hi0 hi1 hR hT nx ny x0 y0 x1 y1 g0 ast aim akt : Nat} (hL : L ≤ 1536) (C0 : lw_At p s m meth c b L xs) (C : CX p s m #[Value.ref b] meth c cL_law 4 ret wsL_law RL) (hK : KK D cI cZ s) : ∀ (n k : Nat) (i : Int32) (_ : i.toInt = (k : Int)) (_ : k ≤ L) (_ : L < k + n) (now : Sm) (im0 : Sm) (im1 : Sm) (kp : Int32) (r : Rd) (t : Rd) (st : Nat → Int32) (im : Nat → Int32) (kt : Nat → Int32) (md : Rd) (_ : Rel now im0 im1 kp st im kt) (H : Heap) (locs : List Loc) (_ : va_P D classes [(h0, .inr (2, [.ref hn, .ref hi0, .ref hi1, .int kp, .ref hR, .ref hT])), (hn, .inr (1, [.ref nx, .ref ny, .int now.2.2.1, .int now.2.2.2.1, .int now.2.2.2.2])), (nx, .inl (cI, 10, .inl now.1)), (ny, .inl (cI, 10, .inl now.2.1)), (hi0, .inr (1, [.ref x0, .ref y0, .int im0.2.2.1, .int im0.2.2.2.1, .int im0.2.2.2.2])), (x0, .inl (cI, 10, .inl im0.1)), (y0, .inl (cI, 10, .inl im0.2.1)), (hi1, .inr (1, [.ref x1, .ref y1, .int im1.2.2.1, .int im1.2.2.2.1, .int im1.2.2.2.2])), (x1, .inl (cI, 10, .inl im1.1)), (y1, .inl (cI, 10, .inl im1.2.1)), (hR, .inr (0, rdv r)), (hT, .inr (0, rdv t)), (g0, .inr (3, mdv ast aim akt md)), (ast, .inl (cI, 23, .inl st)), (aim, .inl (cI, 46, .inl im)), (akt, .inl (cZ, 2, .inl kt))] H) (_ : va_D (fun q : Nat => s.heap.size ≤ q) [(h0, .inr (2, [.ref hn, .ref hi0, .ref hi1, .int kp, .ref hR, .ref hT])), (hn, .inr (1, [.ref nx, .ref ny, .int now.2.2.1, .int now.2.2.2.1, .int now.2.2.2.2])), (nx, .inl (cI, 10, .inl now.1)), (ny, .inl (cI, 10, .inl now.2.1)), (hi0, .inr (1, [.ref x0, .ref y0, .int im0.2.2.1, .int im0.2.2.2.1, .int im0.2.2.2.2])), (x0, .inl (cI, 10, .inl im0.1)), (y0, .inl (cI, 10, .inl im0.2.1)), (hi1, .inr (1, [.ref x1, .ref y1, .int im1.2.2.1, .int im1.2.2.2.1, .int im1.2.2.2.2])), (x1, .inl (cI, 10, .inl im1.1)), (y1, .inl (cI, 10, .inl im1.2.1)), (hR, .inr (0, rdv r)), (hT, .inr (0, rdv t)), (g0, .inr (3, mdv ast aim akt md)), (ast, .inl (cI, 23, .inl st)), (aim, .inl (cI, 46, .inl im)), (akt, .inl (cZ, 2, .inl kt))]) (_ : va_S (fun q : Nat => s.heap.size ≤ q) s.heap H locs) (ls : Array Slot) (_ : lv_has ls 4 [(0, .ref b), (1, .ref h0), (2, .ref g0), (3, .int i)]), W p l e room_1 s m #[Value.ref b] below meth c H locs 16 194 (lw_Z below #[Value.ref b] s) (F0 m 18 ls []) := by
  obtain ⟨hx, hb, hr, hml, hown, hts, hX, hbl, hlocks, hgv⟩ := C0
  have hA : ∀ q : Nat, s.heap.size ≤ q → (fun q : Nat => s.heap.size ≤ q) q := fun _ h => h
  have hbA : ¬ (fun q : Nat => s.heap.size ≤ q) b := Nat.not_le.mpr hbl
  intro n
  induction n with
  | zero =>
    intro k i hi h1 h2
    exact absurd h2 (by omega)
  | succ n ih =>
    intro k i hi h1 h2 now im0 im1 kp r t st im kt md hR0 H locs hP hD hS ls hl
    refine lv_iload_n hx hb dL_law_18 rfl (lv_at hl 3 rfl) ?_
    refine lv_aload_n hx hb dL_law_19 rfl (lv_at hl 0 rfl) ?_
    refine va_slen hx hb hX hbl hbA hS dL_law_20 ?_
    refine lv_iconst (v := 3) hx hb dL_law_21 (by decide) ?_
    refine lv_isub hx hb dL_law_22 ?_
    refine lv_icmp_gt (tgt := 610) hx hb dL_law_23 (by decide) (fun _ => ?_) (fun c_23 => ?_)
    · refine lv_iconst (v := 1) hx hb dL_law_610 (by decide) ?_
      refine va_forget (fun q hq => hS.2.2 q hq) ?_
      exact lw_ret hx hb hr hlocks dL_law_611
    · have hk3 : k + 3 ≤ L := law_k3 hi hL c_23
      have kont : ∀ (now : Sm) (im0 : Sm) (im1 : Sm) (kp : Int32) (r : Rd) (t : Rd) (st : Nat → Int32) (im : Nat → Int32) (kt : Nat → Int32) (md : Rd) (_ : Rel now im0 im1 kp st im kt) (H : Heap) (locs : List Loc) (_ : va_P D classes [(h0, .inr (2, [.ref hn, .ref hi0, .ref hi1, .int kp, .ref hR, .ref hT])), (hn, .inr (1, [.ref nx, .ref ny, .int now.2.2.1, .int now.2.2.2.1, .int now.2.2.2.2])), (nx, .inl (cI, 10, .inl now.1)), (ny, .inl (cI, 10, .inl now.2.1)), (hi0, .inr (1, [.ref x0, .ref y0, .int im0.2.2.1, .int im0.2.2.2.1, .int im0.2.2.2.2])), (x0, .inl (cI, 10, .inl im0.1)), (y0, .inl (cI, 10, .inl im0.2.1)), (hi1, .inr (1, [.ref x1, .ref y1, .int im1.2.2.1, .int im1.2.2.2.1, .int im1.2.2.2.2])), (x1, .inl (cI, 10, .inl im1.1)), (y1, .inl (cI, 10, .inl im1.2.1)), (hR, .inr (0, rdv r)), (hT, .inr (0, rdv t)), (g0, .inr (3, mdv ast aim akt md)), (ast, .inl (cI, 23, .inl st)), (aim, .inl (cI, 46, .inl im)), (akt, .inl (cZ, 2, .inl kt))] H) (_ : va_D (fun q : Nat => s.heap.size ≤ q) [(h0, .inr (2, [.ref hn, .ref hi0, .ref hi1, .int kp, .ref hR, .ref hT])), (hn, .inr (1, [.ref nx, .ref ny, .int now.2.2.1, .int now.2.2.2.1, .int now.2.2.2.2])), (nx, .inl (cI, 10, .inl now.1)), (ny, .inl (cI, 10, .inl now.2.1)), (hi0, .inr (1, [.ref x0, .ref y0, .int im0.2.2.1, .int im0.2.2.2.1, .int im0.2.2.2.2])), (x0, .inl (cI, 10, .inl im0.1)), (y0, .inl (cI, 10, .inl im0.2.1)), (hi1, .inr (1, [.ref x1, .ref y1, .int im1.2.2.1, .int im1.2.2.2.1, .int im1.2.2.2.2])), (x1, .inl (cI, 10, .inl im1.1)), (y1, .inl (cI, 10, .inl im1.2.1)), (hR, .inr (0, rdv r)), (hT, .inr (0, rdv t)), (g0, .inr (3, mdv ast aim akt md)), (ast, .inl (cI, 23, .inl st)), (aim, .inl (cI, 46, .inl im)), (akt, .inl (cZ, 2, .inl kt))]) (_ : va_S (fun q : Nat => s.heap.size ≤ q) s.heap H locs) (ls : Array Slot) (_ : lv_has ls 4 [(0, .ref b), (1, .ref h0), (2, .ref g0), (3, .int i)]), W p l e room_1 s m #[Value.ref b] below meth c H locs 16 194 (lw_Z below #[Value.ref b] s) (F0 m 604 ls []) := by
        intro now im0 im1 kp r t st im kt md hR1 H locs hP hD hS ls hl
        refine lv_iinc (v := i + 3) (lv' := [(3, .int (i + 3)), (0, .ref b), (1, .ref h0), (2, .ref g0)]) hx hb dL_law_604 hl (k := 3) rfl rfl (by decide) rfl (fun ls hl => ?_)
        refine lv_goto (tgt := 18) hx hb dL_law_607 (by decide) ?_
        exact ih (k + 3) (i + 3) (law_i3 hi (by omega)) hk3 (by omega) now im0 im1 kp r t st im kt md hR1 _ _ hP hD hS _ (lv_sub hl [1, 2, 3, 0] rfl)
      refine lv_aload_n hx hb dL_law_26 rfl (lv_at hl 0 rfl) ?_
      refine lv_iload_n hx hb dL_law_27 rfl (lv_at hl 3 rfl) ?_
      refine va_sld hx hb hX hbl hbA hS (sc_0 hi hk3 hL) dL_law_28 ?_
      refine lv_bipush (v := 31) hx hb dL_law_29 (by decide) ?_
      refine lv_iand hx hb dL_law_31 ?_
      generalize xs i.toNatClampNeg &&& 31 = o
      by_cases c_0 : o = 0
      · refine lv_tableIn (off := 92) (tgt := 124) hx hb dL_law_32 (by rw [c_0]; decide) (by rw [c_0]; decide) (by rw [c_0]; rfl) (by decide) ?_
        exact lc_add C hK hA hX hbl hbA hi hk3 hL kont now im0 im1 kp r t st im kt md hR0 _ _ hP hD hS _ hl
      by_cases c_1 : o = 1
      · refine lv_tableIn (off := 125) (tgt := 157) hx hb dL_law_32 (by rw [c_1]; decide) (by rw [c_1]; decide) (by rw [c_1]; rfl) (by decide) ?_
        exact lc_clear C hK hA hX hbl hbA hi hk3 hL kont now im0 im1 kp r t st im kt md hR0 _ _ hP hD hS _ hl
      by_cases c_2 : o = 2
      · refine lv_tableIn (off := 138) (tgt := 170) hx hb dL_law_32 (by rw [c_2]; decide) (by rw [c_2]; decide) (by rw [c_2]; rfl) (by decide) ?_
        exact lc_take C hK hA hX hbl hbA hi hk3 hL kont now im0 im1 kp r t st im kt md hR0 _ _ hP hD hS _ hl
      by_cases c_3 : o = 3
      · refine lv_tableIn (off := 171) (tgt := 203) hx hb dL_law_32 (by rw [c_3]; decide) (by rw [c_3]; decide) (by rw [c_3]; rfl) (by decide) ?_
        exact lc_of C hK hA hX hbl hbA hi hk3 hL kont now im0 im1 kp r t st im kt md hR0 _ _ hP hD hS _ hl
      by_cases c_4 : o = 4
      · refine lv_tableIn (off := 204) (tgt := 236) hx hb dL_law_32 (by rw [c_4]; decide) (by rw [c_4]; decide) (by rw [c_4]; rfl) (by decide) ?_
        exact lc_round C hK hA hX hbl hbA hi hk3 hL kont now im0 im1 kp r t st im kt md hR0 _ _ hP hD hS _ hl
      by_cases c_5 : o = 5
      · refine lv_tableIn (off := 238) (tgt := 270) hx hb dL_law_32 (by rw [c_5]; decide) (by rw [c_5]; decide) (by rw [c_5]; rfl) (by decide) ?_
        exact lc_middle C hK hA hX hbl hbA hi hk3 hL kont now im0 im1 kp r t st im kt md hR0 _ _ hP hD hS _ hl
      by_cases c_6 : o = 6
      · refine lv_tableIn (off := 272) (tgt := 304) hx hb dL_law_32 (by rw [c_6]; decide) (by rw [c_6]; decide) (by rw [c_6]; rfl) (by decide) ?_
        exact lc_off C hK hA hX hbl hbA hi hk3 hL kont now im0 im1 kp r t st im kt md hR0 _ _ hP hD hS _ hl
      by_cases c_7 : o = 7
      · refine lv_tableIn (off := 306) (tgt := 338) hx hb dL_law_32 (by rw [c_7]; decide) (by rw [c_7]; decide) (by rw [c_7]; rfl) (by decide) ?_
        exact lc_worst C hK hA hX hbl hbA hi hk3 hL kont now im0 im1 kp r t st im kt md hR0 _ _ hP hD hS _ hl
      by_cases c_8 : o = 8
      · refine lv_tableIn (off := 329) (tgt := 361) hx hb dL_law_32 (by rw [c_8]; decide) (by rw [c_8]; decide) (by rw [c_8]; rfl) (by decide) ?_
        exact lc_need C hK hA hX hbl hbA hi hk3 hL kont now im0 im1 kp r t st im kt md hR0 _ _ hP hD hS _ hl
      by_cases c_9 : o = 9
      · refine lv_tableIn (off := 352) (tgt := 384) hx hb dL_law_32 (by rw [c_9]; decide) (by rw [c_9]; decide) (by rw [c_9]; rfl) (by decide) ?_
        exact lc_cover C hK hA hX hbl hbA hi hk3 hL kont now im0 im1 kp r t st im kt md hR0 _ _ hP hD hS _ hl
      by_cases c_10 : o = 10
      · refine lv_tableIn (off := 365) (tgt := 397) hx hb dL_law_32 (by rw [c_10]; decide) (by rw [c_10]; decide) (by rw [c_10]; rfl) (by decide) ?_
        exact lc_poor C hK hA hX hbl hbA hi hk3 hL kont now im0 im1 kp r t st im kt md hR0 _ _ hP hD hS _ hl
      by_cases c_11 : o = 11
      · refine lv_tableIn (off := 378) (tgt := 410) hx hb dL_law_32 (by rw [c_11]; decide) (by rw [c_11]; decide) (by rw [c_11]; rfl) (by decide) ?_
        exact lc_eighth C hK hA hX hbl hbA hi hk3 hL kont now im0 im1 kp r t st im kt md hR0 _ _ hP hD hS _ hl
      by_cases c_12 : o = 12
      · refine lv_tableIn (off := 401) (tgt := 433) hx hb dL_law_32 (by rw [c_12]; decide) (by rw [c_12]; decide) (by rw [c_12]; rfl) (by decide) ?_
        exact lc_points C hK hA hX hbl hbA hi hk3 hL kont now im0 im1 kp r t st im kt md hR0 _ _ hP hD hS _ hl
      by_cases c_13 : o = 13
      · refine lv_tableIn (off := 434) (tgt := 466) hx hb dL_law_32 (by rw [c_13]; decide) (by rw [c_13]; decide) (by rw [c_13]; rfl) (by decide) ?_
        exact lc_helps C hK hA hX hbl hbA hi hk3 hL kont now im0 im1 kp r t st im kt md hR0 _ _ hP hD hS _ hl
      by_cases c_14 : o = 14
      · refine lv_tableIn (off := 447) (tgt := 479) hx hb dL_law_32 (by rw [c_14]; decide) (by rw [c_14]; decide) (by rw [c_14]; rfl) (by decide) ?_
        exact lc_trim C hK hA hX hbl hbA hi hk3 hL kont now im0 im1 kp r t st im kt md hR0 _ _ hP hD hS _ hl
      by_cases c_15 : o = 15
      · refine lv_tableIn (off := 470) (tgt := 502) hx hb dL_law_32 (by rw [c_15]; decide) (by rw [c_15]; decide) (by rw [c_15]; rfl) (by decide) ?_
        exact lc_fewest C hK hA hX hbl hbA hi hk3 hL kont now im0 im1 kp r t st im kt md hR0 _ _ hP hD hS _ hl
      by_cases c_16 : o = 16
      · refine lv_tableIn (off := 503) (tgt := 535) hx hb dL_law_32 (by rw [c_16]; decide) (by rw [c_16]; decide) (by rw [c_16]; rfl) (by decide) ?_
        exact lc_image C hK hA hX hbl hbA hi hk3 hL kont now im0 im1 kp r t st im kt md hR0 _ _ hP hD hS _ hl
      by_cases c_17 : o = 17
      · refine lv_tableIn (off := 526) (tgt := 558) hx hb dL_law_32 (by rw [c_17]; decide) (by rw [c_17]; decide) (by rw [c_17]; rfl) (by decide) ?_
        exact lc_restore C hK hA hX hbl hbA hi hk3 hL kont now im0 im1 kp r t st im kt md hR0 _ _ hP hD hS _ hl
      by_cases c_18 : o = 18
      · refine lv_tableIn (off := 549) (tgt := 581) hx hb dL_law_32 (by rw [c_18]; decide) (by rw [c_18]; decide) (by rw [c_18]; rfl) (by decide) ?_
        exact lc_count C hK hA hX hbl hbA hi hk3 hL kont now im0 im1 kp r t st im kt md hR0 _ _ hP hD hS _ hl
      refine lv_tableOut (tgt := 604) hx hb dL_law_32 (by have h0 := lv_neT c_0 (a := 0) rfl; have h1 := lv_neT c_1 (a := 1) rfl; have h2 := lv_neT c_2 (a := 2) rfl; have h3 := lv_neT c_3 (a := 3) rfl; have h4 := lv_neT c_4 (a := 4) rfl; have h5 := lv_neT c_5 (a := 5) rfl; have h6 := lv_neT c_6 (a := 6) rfl; have h7 := lv_neT c_7 (a := 7) rfl; have h8 := lv_neT c_8 (a := 8) rfl; have h9 := lv_neT c_9 (a := 9) rfl; have h10 := lv_neT c_10 (a := 10) rfl; have h11 := lv_neT c_11 (a := 11) rfl; have h12 := lv_neT c_12 (a := 12) rfl; have h13 := lv_neT c_13 (a := 13) rfl; have h14 := lv_neT c_14 (a := 14) rfl; have h15 := lv_neT c_15 (a := 15) rfl; have h16 := lv_neT c_16 (a := 16) rfl; have h17 := lv_neT c_17 (a := 17) rfl; have h18 := lv_neT c_18 (a := 18) rfl; omega) (by decide) ?_
      exact kont now im0 im1 kp r t st im kt md hR0 _ _ hP hD hS _ hl
set_option maxHeartbeats 4000000 in
set_option maxRecDepth 100000 in
theorem whole_start {p : Program} {e : Env} {s : State} {m : MethodId} {below : List Frame} {meth : Method} {c : Code} (l : Launch) (hflags : l.flags = flags0) {b L : Nat} {xs : Nat → Int32} (hL : L ≤ 1536) (C0 : lw_At p s m meth c b L xs) : W p l e room_1 s m #[Value.ref b] below meth c s.heap [] 0 0 (lw_Z below #[Value.ref b] s) (entryFrame m ([Value.ref b] : List Value).toArray 4) := by
  obtain ⟨hx, hb, hr, hml, hown0, hts0, hX, hbl, hlocks, hgv⟩ := id C0
  have hown : s.vm.findClass RL = some m.cls := hown0
  have hts : ∀ w ∈ wsL_law, w.before #[Value.ref b] s = true := fun w h => hts0 w (wsL_law_in w h)
  have C : CX p s m #[Value.ref b] meth c cL_law 4 ret wsL_law RL := ⟨hx, hb, hml, hown, hts, hr, hlocks⟩
  have hA : ∀ q : Nat, s.heap.size ≤ q → (fun q : Nat => s.heap.size ≤ q) q := fun _ h => h
  obtain ⟨c0, iS0, hKn0⟩ := u_known (C := RX0) (T := TX0) (N := 13) (n := 13) hts inlX0 (hts (.instantiable RX0 13) (List.mem_of_getElem? (i := 20) rfl))
  obtain ⟨c1, iS1, hKn1⟩ := u_known (C := RX1) (T := TX1) (N := 5) (n := 5) hts inlX1 (hts (.instantiable RX1 5) (List.mem_of_getElem? (i := 13) rfl))
  obtain ⟨c2, iS2, hKn2⟩ := u_known (C := RX2) (T := TX2) (N := 6) (n := 6) hts inlX2 (hts (.instantiable RX2 6) (List.mem_of_getElem? (i := 1) rfl))
  obtain ⟨c3, iS3, hKn3⟩ := u_known (C := RX3) (T := TX3) (N := 16) (n := 16) hts inlX3 (hts (.instantiable RX3 16) (List.mem_of_getElem? (i := 4) rfl))
  obtain ⟨D, hKc⟩ : ∃ D : va_G, ∀ (k : Nat) (q : vw_C), classes[k]? = some q → u_Kn s q.1 q.2.1 q.2.2 (D.1 k) (D.2 k) := by
    refine ⟨(fun k => if k = 0 then c0 else if k = 1 then c1 else if k = 2 then c2 else c3, fun k => if k = 0 then iS0 else if k = 1 then iS1 else if k = 2 then iS2 else iS3), ?_⟩
    intro k q hq
    match k, hq with
    | 0, hq => cases hq; exact hKn0
    | 1, hq => cases hq; exact hKn1
    | 2, hq => cases hq; exact hKn2
    | 3, hq => cases hq; exact hKn3
    | k + 4, hq => simp [classes] at hq
  have hS : va_S (fun q : Nat => s.heap.size ≤ q) s.heap s.heap [] := va_S.rf
  have hK : va_K D classes [] s := ⟨hKc, fun k q h => by simp at h⟩
  have hP : va_P D classes [] s.heap := fun k q h => by simp at h
  have hD : va_D (fun q : Nat => s.heap.size ≤ q) [] := ⟨fun i j p q h => by simp at h, fun k q h => by simp at h⟩
  have hNW : va_Nw nwW s := va_Nw.of rfl (hts0 nwW (List.mem_of_getElem? (i := 196) (by decide +kernel)))
  have hN28 : va_Nw (.methodLinkNest RX2 28 yX0_init RX2) s := va_Nw.of rfl (hts0 (.methodLinkNest RX2 28 yX0_init RX2) (List.mem_of_getElem? (i := 70) (by decide +kernel)))
  have hl := lv_entry ([.ref b]) (n := 4) (Nat.le_of_ble_eq_true rfl)
  rw [lg_entry_eq]
  generalize (lg_sl ([.ref b]) ++ List.replicate (4 - (lg_sl ([.ref b])).length) Slot.unset).toArray = ls at hl ⊢
  have hl : lv_has ls 4 [(0, .ref b)] := hl
  refine va_new (ci := 2) (fs := [.null, .null, .null, .int 0, .null, .null]) (C := RX2) (T := TX2) (N := 6) hx hb hts inlX2 tyX2 tyX2_ok hown (hts (.classLink RL 7 RX2) (List.mem_of_getElem? (i := 0) rfl)) (hts (.instantiable RX2 6) (List.mem_of_getElem? (i := 1) rfl)) (hts (.initialized RX2) (List.mem_of_getElem? (i := 2) rfl)) hK hP hD hS hA rfl (fun j hj => by rcases (show j = 0 ∨ j = 1 ∨ j = 2 ∨ j = 3 ∨ j = 4 ∨ j = 5 by omega) with rfl | rfl | rfl | rfl | rfl | rfl <;> rfl) (Nat.le_of_ble_eq_true rfl) (Nat.le_of_ble_eq_true rfl) dL_law_0 (fun h0 H hP hD hS => ?_)
  have hP : va_P D classes [(h0, .inr (2, [.null, .null, .null, .int 0, .null, .null]))] H := hP
  have hD : va_D (fun q : Nat => s.heap.size ≤ q) [(h0, .inr (2, [.null, .null, .null, .int 0, .null, .null]))] := hD
  refine W.widen (k := 1) (n := 6) (by omega) (by omega) ?_
  refine lv_dup hx hb dL_law_3 rfl ?_
  have hPc := hP.sub (ws' := [(h0, .inr (2, [.null, .null, .null, .int 0, .null, .null]))]) [0] rfl
  have hDc := hD.sub (ws' := [(h0, .inr (2, [.null, .null, .null, .int 0, .null, .null]))]) [0] (by decide) rfl
  have hFc := va_free (wc := [(h0, .inr (2, [.null, .null, .null, .int 0, .null, .null]))]) hD hS hA [0] rfl
  refine va_callv (va_runI (As := []) (rest := [.ref h0]) ⟨hx, hb, hml, hown, hts⟩ (c_X2_init l D h0 H.size) (cwI 0 hts gL_law_X2_init rfl rfl rfl (hts (.initialized RX2) (List.mem_of_getElem? (i := 2) rfl)) (hts (.methodLink RL 9 yX2_init) (List.mem_of_getElem? (i := 6) rfl)) (hts (.instanceMethod yX2_init) (List.mem_of_getElem? (i := 7) rfl)) rfl (by decide +kernel) ⟨Nat.le_of_ble_eq_true rfl, Nat.le_of_ble_eq_true rfl⟩) ⟨fun a U g mk q => ⟨q.1, q.2.1, q.2.2.1, va_K.moved (u := U) (U := U.calling g mk a) (Vm.Alike.refl U.vm) q.2.2.2.1, va_Nw.same rfl rfl q.2.2.2.2.1, q.2.2.2.2.2⟩, fun U hU hW => ⟨rfl, by rw [hU], by rw [hU]; exact hPc, va_K.moved hW.alike hK, va_Nw.warmM hW hN28, hDc.weaken (fun _ _ _ _ => trivial)⟩⟩ rfl rfl hl.1 rfl (lv_room (Nat.le_of_ble_eq_true rfl)) dL_law_4 ⟨Nat.le_of_ble_eq_true rfl, Nat.le_of_ble_eq_true rfl⟩) hS (fun q _ h => hFc q h) hFc (fun u t H1 locs ht hvm hw hB hz1 hk1 hS => ?_)
  obtain ⟨hn, nx, ny, hi0, x0, y0, hi1, x1, y1, hR, hT, cI, hP1, hK1, hD1⟩ := hB
  rw [ht] at hP1
  obtain ⟨hP, hD⟩ := va_join (wr := []) (w1 := [(h0, .inr (2, [.ref hn, .ref hi0, .ref hi1, .int 0, .ref hR, .ref hT])), (hn, .inr (1, [.ref nx, .ref ny, .int 0, .int 0, .int 5])), (nx, .inl (cI, 10, .inl (fun _ => 0))), (ny, .inl (cI, 10, .inl (fun _ => 0))), (hi0, .inr (1, [.ref x0, .ref y0, .int 0, .int 0, .int 5])), (x0, .inl (cI, 10, .inl (fun _ => 0))), (y0, .inl (cI, 10, .inl (fun _ => 0))), (hi1, .inr (1, [.ref x1, .ref y1, .int 0, .int 0, .int 5])), (x1, .inl (cI, 10, .inl (fun _ => 0))), (y1, .inl (cI, 10, .inl (fun _ => 0))), (hR, .inr (0, rdv (0, 0, 0, 0, 0, 0, 0, 0, 0, 0, 0, 0, 0))), (hT, .inr (0, rdv (0, 0, 0, 0, 0, 0, 0, 0, 0, 0, 0, 0, 0)))]) hP hD [0] [] rfl rfl (by decide) (by decide) hk1 hFc hP1 hD1
  generalize H1 = H at hP hS ⊢
  have hKa := va_K.moved hvm.symm hK1
  have hP : va_P D classes [(h0, .inr (2, [.ref hn, .ref hi0, .ref hi1, .int 0, .ref hR, .ref hT])), (hn, .inr (1, [.ref nx, .ref ny, .int 0, .int 0, .int 5])), (nx, .inl (cI, 10, .inl (fun _ => 0))), (ny, .inl (cI, 10, .inl (fun _ => 0))), (hi0, .inr (1, [.ref x0, .ref y0, .int 0, .int 0, .int 5])), (x0, .inl (cI, 10, .inl (fun _ => 0))), (y0, .inl (cI, 10, .inl (fun _ => 0))), (hi1, .inr (1, [.ref x1, .ref y1, .int 0, .int 0, .int 5])), (x1, .inl (cI, 10, .inl (fun _ => 0))), (y1, .inl (cI, 10, .inl (fun _ => 0))), (hR, .inr (0, rdv (0, 0, 0, 0, 0, 0, 0, 0, 0, 0, 0, 0, 0))), (hT, .inr (0, rdv (0, 0, 0, 0, 0, 0, 0, 0, 0, 0, 0, 0, 0)))] H := hP
  have hD : va_D (fun q : Nat => s.heap.size ≤ q) [(h0, .inr (2, [.ref hn, .ref hi0, .ref hi1, .int 0, .ref hR, .ref hT])), (hn, .inr (1, [.ref nx, .ref ny, .int 0, .int 0, .int 5])), (nx, .inl (cI, 10, .inl (fun _ => 0))), (ny, .inl (cI, 10, .inl (fun _ => 0))), (hi0, .inr (1, [.ref x0, .ref y0, .int 0, .int 0, .int 5])), (x0, .inl (cI, 10, .inl (fun _ => 0))), (y0, .inl (cI, 10, .inl (fun _ => 0))), (hi1, .inr (1, [.ref x1, .ref y1, .int 0, .int 0, .int 5])), (x1, .inl (cI, 10, .inl (fun _ => 0))), (y1, .inl (cI, 10, .inl (fun _ => 0))), (hR, .inr (0, rdv (0, 0, 0, 0, 0, 0, 0, 0, 0, 0, 0, 0, 0))), (hT, .inr (0, rdv (0, 0, 0, 0, 0, 0, 0, 0, 0, 0, 0, 0, 0)))] := hD
  refine W.widen (k := 12) (n := 107) (by omega) (by omega) ?_
  refine lv_astore_n (lv' := [(1, .ref h0), (0, .ref b)]) hx hb dL_law_7 rfl hl (by decide) rfl (fun ls hl => ?_)
  refine va_new (ci := 3) (fs := [.null, .null, .null, .long 0, .long 0, .long 0, .long 0, .long 0, .long 0, .long 0, .long 0, .long 0, .long 0, .long 0, .long 0, .long 0]) (C := RX3) (T := TX3) (N := 16) hx hb hts inlX3 tyX3 tyX3_ok hown (hts (.classLink RL 10 RX3) (List.mem_of_getElem? (i := 3) rfl)) (hts (.instantiable RX3 16) (List.mem_of_getElem? (i := 4) rfl)) (hts (.initialized RX3) (List.mem_of_getElem? (i := 5) rfl)) hK hP hD hS hA rfl (fun j hj => by rcases (show j = 0 ∨ j = 1 ∨ j = 2 ∨ j = 3 ∨ j = 4 ∨ j = 5 ∨ j = 6 ∨ j = 7 ∨ j = 8 ∨ j = 9 ∨ j = 10 ∨ j = 11 ∨ j = 12 ∨ j = 13 ∨ j = 14 ∨ j = 15 by omega) with rfl | rfl | rfl | rfl | rfl | rfl | rfl | rfl | rfl | rfl | rfl | rfl | rfl | rfl | rfl | rfl <;> rfl) (Nat.le_of_ble_eq_true rfl) (Nat.le_of_ble_eq_true rfl) dL_law_8 (fun g0 H hP hD hS => ?_)
  have hP : va_P D classes [(h0, .inr (2, [.ref hn, .ref hi0, .ref hi1, .int 0, .ref hR, .ref hT])), (hn, .inr (1, [.ref nx, .ref ny, .int 0, .int 0, .int 5])), (nx, .inl (cI, 10, .inl (fun _ => 0))), (ny, .inl (cI, 10, .inl (fun _ => 0))), (hi0, .inr (1, [.ref x0, .ref y0, .int 0, .int 0, .int 5])), (x0, .inl (cI, 10, .inl (fun _ => 0))), (y0, .inl (cI, 10, .inl (fun _ => 0))), (hi1, .inr (1, [.ref x1, .ref y1, .int 0, .int 0, .int 5])), (x1, .inl (cI, 10, .inl (fun _ => 0))), (y1, .inl (cI, 10, .inl (fun _ => 0))), (hR, .inr (0, rdv (0, 0, 0, 0, 0, 0, 0, 0, 0, 0, 0, 0, 0))), (hT, .inr (0, rdv (0, 0, 0, 0, 0, 0, 0, 0, 0, 0, 0, 0, 0))), (g0, .inr (3, [.null, .null, .null, .long 0, .long 0, .long 0, .long 0, .long 0, .long 0, .long 0, .long 0, .long 0, .long 0, .long 0, .long 0, .long 0]))] H := hP
  have hD : va_D (fun q : Nat => s.heap.size ≤ q) [(h0, .inr (2, [.ref hn, .ref hi0, .ref hi1, .int 0, .ref hR, .ref hT])), (hn, .inr (1, [.ref nx, .ref ny, .int 0, .int 0, .int 5])), (nx, .inl (cI, 10, .inl (fun _ => 0))), (ny, .inl (cI, 10, .inl (fun _ => 0))), (hi0, .inr (1, [.ref x0, .ref y0, .int 0, .int 0, .int 5])), (x0, .inl (cI, 10, .inl (fun _ => 0))), (y0, .inl (cI, 10, .inl (fun _ => 0))), (hi1, .inr (1, [.ref x1, .ref y1, .int 0, .int 0, .int 5])), (x1, .inl (cI, 10, .inl (fun _ => 0))), (y1, .inl (cI, 10, .inl (fun _ => 0))), (hR, .inr (0, rdv (0, 0, 0, 0, 0, 0, 0, 0, 0, 0, 0, 0, 0))), (hT, .inr (0, rdv (0, 0, 0, 0, 0, 0, 0, 0, 0, 0, 0, 0, 0))), (g0, .inr (3, [.null, .null, .null, .long 0, .long 0, .long 0, .long 0, .long 0, .long 0, .long 0, .long 0, .long 0, .long 0, .long 0, .long 0, .long 0]))] := hD
  refine W.widen (k := 13) (n := 123) (by omega) (by omega) ?_
  refine lv_dup hx hb dL_law_11 rfl ?_
  have hPc := hP.sub (ws' := [(g0, .inr (3, [.null, .null, .null, .long 0, .long 0, .long 0, .long 0, .long 0, .long 0, .long 0, .long 0, .long 0, .long 0, .long 0, .long 0, .long 0]))]) [12] rfl
  have hDc := hD.sub (ws' := [(g0, .inr (3, [.null, .null, .null, .long 0, .long 0, .long 0, .long 0, .long 0, .long 0, .long 0, .long 0, .long 0, .long 0, .long 0, .long 0, .long 0]))]) [12] (by decide) rfl
  have hFc := va_free (wc := [(g0, .inr (3, [.null, .null, .null, .long 0, .long 0, .long 0, .long 0, .long 0, .long 0, .long 0, .long 0, .long 0, .long 0, .long 0, .long 0, .long 0]))]) hD hS hA [12] rfl
  refine va_callv (va_runI (As := []) (rest := [.ref g0]) ⟨hx, hb, hml, hown, hts⟩ (c_X3_init l D g0 H.size) (cwI 0 hts gL_law_X3_init rfl rfl rfl (hts (.initialized RX3) (List.mem_of_getElem? (i := 5) rfl)) (hts (.methodLink RL 12 yX3_init) (List.mem_of_getElem? (i := 37) rfl)) (hts (.instanceMethod yX3_init) (List.mem_of_getElem? (i := 38) rfl)) rfl (by decide +kernel) ⟨Nat.le_of_ble_eq_true rfl, Nat.le_of_ble_eq_true rfl⟩) ⟨fun a U g mk q => ⟨q.1, q.2.1, q.2.2.1, va_K.moved (u := U) (U := U.calling g mk a) (Vm.Alike.refl U.vm) q.2.2.2.1, trivial, q.2.2.2.2.2⟩, fun U hU hW => ⟨rfl, by rw [hU], by rw [hU]; exact hPc, va_K.moved hW.alike hK, trivial, hDc.weaken (fun _ _ _ _ => trivial)⟩⟩ rfl rfl hl.1 rfl (lv_room (Nat.le_of_ble_eq_true rfl)) dL_law_12 ⟨Nat.le_of_ble_eq_true rfl, Nat.le_of_ble_eq_true rfl⟩) hS (fun q _ h => hFc q h) hFc (fun u t H1 locs ht hvm hw hB hz1 hk1 hS => ?_)
  obtain ⟨ast, aim, akt, cB, cZ, hP1, hK1, hK2, hD1⟩ := hB
  rw [ht] at hP1
  obtain ⟨hP, hD⟩ := va_join (wr := [(h0, .inr (2, [.ref hn, .ref hi0, .ref hi1, .int 0, .ref hR, .ref hT])), (hn, .inr (1, [.ref nx, .ref ny, .int 0, .int 0, .int 5])), (nx, .inl (cI, 10, .inl (fun _ => 0))), (ny, .inl (cI, 10, .inl (fun _ => 0))), (hi0, .inr (1, [.ref x0, .ref y0, .int 0, .int 0, .int 5])), (x0, .inl (cI, 10, .inl (fun _ => 0))), (y0, .inl (cI, 10, .inl (fun _ => 0))), (hi1, .inr (1, [.ref x1, .ref y1, .int 0, .int 0, .int 5])), (x1, .inl (cI, 10, .inl (fun _ => 0))), (y1, .inl (cI, 10, .inl (fun _ => 0))), (hR, .inr (0, rdv (0, 0, 0, 0, 0, 0, 0, 0, 0, 0, 0, 0, 0))), (hT, .inr (0, rdv (0, 0, 0, 0, 0, 0, 0, 0, 0, 0, 0, 0, 0)))]) (w1 := [(g0, .inr (3, mdv ast aim akt (0, 0, 0, 0, 0, 0, 0, 0, 0, 0, 0, 0, 0))), (ast, .inl (cB, 23, .inl (upd (fun _ => 0) 22 5))), (aim, .inl (cB, 46, .inl (fun _ => 0))), (akt, .inl (cZ, 2, .inl (fun _ => 0)))]) hP hD [12] [0, 1, 2, 3, 4, 5, 6, 7, 8, 9, 10, 11] rfl rfl (by decide) (by decide) hk1 hFc hP1 hD1
  generalize H1 = H at hP hS ⊢
  have hKb := va_K.moved hvm.symm hK1
  have hKz := va_K.moved hvm.symm hK2
  obtain rfl := ci_uniq (fun C h => by cases h) hKa hKb
  have hP : va_P D classes [(h0, .inr (2, [.ref hn, .ref hi0, .ref hi1, .int 0, .ref hR, .ref hT])), (hn, .inr (1, [.ref nx, .ref ny, .int 0, .int 0, .int 5])), (nx, .inl (cI, 10, .inl (fun _ => 0))), (ny, .inl (cI, 10, .inl (fun _ => 0))), (hi0, .inr (1, [.ref x0, .ref y0, .int 0, .int 0, .int 5])), (x0, .inl (cI, 10, .inl (fun _ => 0))), (y0, .inl (cI, 10, .inl (fun _ => 0))), (hi1, .inr (1, [.ref x1, .ref y1, .int 0, .int 0, .int 5])), (x1, .inl (cI, 10, .inl (fun _ => 0))), (y1, .inl (cI, 10, .inl (fun _ => 0))), (hR, .inr (0, rdv (0, 0, 0, 0, 0, 0, 0, 0, 0, 0, 0, 0, 0))), (hT, .inr (0, rdv (0, 0, 0, 0, 0, 0, 0, 0, 0, 0, 0, 0, 0))), (g0, .inr (3, mdv ast aim akt (0, 0, 0, 0, 0, 0, 0, 0, 0, 0, 0, 0, 0))), (ast, .inl (cI, 23, .inl (upd (fun _ => 0) 22 5))), (aim, .inl (cI, 46, .inl (fun _ => 0))), (akt, .inl (cZ, 2, .inl (fun _ => 0)))] H := hP
  have hD : va_D (fun q : Nat => s.heap.size ≤ q) [(h0, .inr (2, [.ref hn, .ref hi0, .ref hi1, .int 0, .ref hR, .ref hT])), (hn, .inr (1, [.ref nx, .ref ny, .int 0, .int 0, .int 5])), (nx, .inl (cI, 10, .inl (fun _ => 0))), (ny, .inl (cI, 10, .inl (fun _ => 0))), (hi0, .inr (1, [.ref x0, .ref y0, .int 0, .int 0, .int 5])), (x0, .inl (cI, 10, .inl (fun _ => 0))), (y0, .inl (cI, 10, .inl (fun _ => 0))), (hi1, .inr (1, [.ref x1, .ref y1, .int 0, .int 0, .int 5])), (x1, .inl (cI, 10, .inl (fun _ => 0))), (y1, .inl (cI, 10, .inl (fun _ => 0))), (hR, .inr (0, rdv (0, 0, 0, 0, 0, 0, 0, 0, 0, 0, 0, 0, 0))), (hT, .inr (0, rdv (0, 0, 0, 0, 0, 0, 0, 0, 0, 0, 0, 0, 0))), (g0, .inr (3, mdv ast aim akt (0, 0, 0, 0, 0, 0, 0, 0, 0, 0, 0, 0, 0))), (ast, .inl (cI, 23, .inl (upd (fun _ => 0) 22 5))), (aim, .inl (cI, 46, .inl (fun _ => 0))), (akt, .inl (cZ, 2, .inl (fun _ => 0)))] := hD
  have hKK : KK D cI cZ s := ⟨hKa.app hKz, hNW⟩
  refine W.widen (k := 16) (n := 194) (by omega) (by omega) ?_
  refine lv_astore_n (lv' := [(2, .ref g0), (1, .ref h0), (0, .ref b)]) hx hb dL_law_15 rfl hl (by decide) rfl (fun ls hl => ?_)
  refine lv_iconst (v := 0) hx hb dL_law_16 (by decide) ?_
  refine lv_istore_n (lv' := [(3, .int 0), (2, .ref g0), (1, .ref h0), (0, .ref b)]) hx hb dL_law_17 rfl hl (by decide) rfl (fun ls hl => ?_)
  exact law_loop hL C0 C hKK (L + 1) 0 0 rfl (Nat.zero_le L) (by omega) (fun _ => 0, fun _ => 0, 0, 0, 5) (fun _ => 0, fun _ => 0, 0, 0, 5) (fun _ => 0, fun _ => 0, 0, 0, 5) 0 (0, 0, 0, 0, 0, 0, 0, 0, 0, 0, 0, 0, 0) (0, 0, 0, 0, 0, 0, 0, 0, 0, 0, 0, 0, 0) (upd (fun _ => 0) 22 5) (fun _ => 0) (fun _ => 0) (0, 0, 0, 0, 0, 0, 0, 0, 0, 0, 0, 0, 0) rel_init _ _ hP hD hS _ (lv_sub hl [3, 2, 1, 0] rfl)
