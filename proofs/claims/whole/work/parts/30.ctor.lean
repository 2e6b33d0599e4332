/-! the constructors -/
theorem ci_uniq {D : va_G} {cl : List vw_C} {a b : ClassId} {ty : FieldType} {U : State} (hty : ∀ C, ty ≠ .object C) (h1 : va_K D cl [(a, ty)] U) (h2 : va_K D cl [(b, ty)] U) : a = b := by
  have e1 := (h1.2 0 _ rfl).2
  have e2 := (h2.2 0 _ rfl).2
  cases ty with
  | object C => exact absurd rfl (hty C)
  | _ => exact Option.some.inj (e1.symm.trans e2)
set_option maxHeartbeats 4000000 in
set_option maxRecDepth 100000 in
theorem c_X0_init (l : Launch) (D : va_G) (h0 : Nat) (r : Rd) (sz : Nat) : Met l yX0_init wsX0_init ({ frames := 1, cells := 0, slots := 0, locals := 12 } : Room) (va_Pc [.ref h0] (fun U => U.heap.size = sz ∧ va_P D classes [(h0, .inr (0, rdv r))] U.heap ∧ va_K D classes [] U ∧ True ∧ va_D (fun _ => True) [(h0, .inr (0, rdv r))])) (va_Qv (fun _ : Unit => True) (fun _ t => va_P D classes [(h0, .inr (0, rdv r))] t.heap ∧ va_D (va_A [(h0, .inr (0, rdv r))] sz) [(h0, .inr (0, rdv r))]) (va_A [(h0, .inr (0, rdv r))] sz)) 0 0 (va_A [(h0, .inr (0, rdv r))] sz) := by
  refine Met.ofW (cc := cX0_init) (maxL := 1) (ret := none) (by decide) rfl ?_
  intro p e s m args below meth c s₁ B hml hv
  obtain ⟨rfl, hsz, hP, hK, hN, hD0⟩ := hv
  have hx := B.exec
  have hb := B.bytes
  have hr := B.returns
  have hts := atoms_spec (ws := wsX0_init) B.pre
  have hown : s.vm.findClass RX0 = some m.cls := findClass_of_methodNamed B.named
  have hlocks := B.notSynchronized
  have hin : meth.name = "<init>" := (name_of_methodNamed B.named B.method).1
  subst hsz
  have hD := hD0.self (sz := s.heap.size)
  generalize hAe : va_A [(h0, .inr (0, rdv r))] s.heap.size = A at hD ⊢
  have hA : ∀ q : Nat, s.heap.size ≤ q → A q := fun q h => by rw [← hAe]; exact Or.inr h
  have hS : va_S A s.heap s.heap [] := va_S.rf
  have hP : va_P D classes [(h0, .inr (0, rdv r))] s.heap := hP
  have hl := lv_entry ([.ref h0]) (n := 1) (Nat.le_of_ble_eq_true rfl)
  rw [lg_entry_eq]
  generalize (lg_sl ([.ref h0]) ++ List.replicate (1 - (lg_sl ([.ref h0])).length) Slot.unset).toArray = ls at hl ⊢
  have hl : lv_has ls 1 [(0, .ref h0)] := hl
  have hK0 : va_K D classes [] s := hK
  refine lv_aload_n hx hb dX0_init_0 rfl (lv_at hl 0 rfl) ?_
  refine W.objInit hx hb hown (hts (.methodLink RX0 3 objectInit) (List.mem_of_getElem? (i := 1) rfl)) (hts (.instanceMethod objectInit) (List.mem_of_getElem? (i := 2) rfl)) (hts (.code objectInit ⟨#[0xb1]⟩ 1 none) (List.mem_of_getElem? (i := 3) rfl)) rfl (by rw [hml]; exact hl.1) rfl dX0_init_1 (Nat.le_of_ble_eq_true rfl) (Nat.le_of_ble_eq_true rfl) ?_
  refine W.eq (g2 := F0 m 4 ls []) rfl ?_
  exact W.vret hx hb hr (fun t ht hW => ⟨⟨(), rfl, trivial, by rw [ht]; exact hP, hD⟩, hS.F ht⟩) hS.2.2 dX0_init_4
theorem iX1_init_X1 : ∀ w ∈ u_ws RX1 TX1 5, w ∈ wsX1_init := fun _ h => List.mem_cons_of_mem _ (List.mem_append_right _ (h))
set_option maxHeartbeats 4000000 in
set_option maxRecDepth 100000 in
theorem c_X1_init (l : Launch) (D : va_G) (h0 : Nat) (sz : Nat) : Met l yX1_init wsX1_init ({ frames := 1, cells := 2, slots := 20, locals := 12 } : Room) (va_Pc [.ref h0] (fun U => U.heap.size = sz ∧ va_P D classes [(h0, .inr (1, [.null, .null, .int 0, .int 0, .int 0]))] U.heap ∧ va_K D classes [] U ∧ True ∧ va_D (fun _ => True) [(h0, .inr (1, [.null, .null, .int 0, .int 0, .int 0]))])) (va_Qv (fun _ : Unit => True) (fun _ t => ∃ (qx qy : Nat) (cA : ClassId), va_P D classes [(h0, .inr (1, [.ref qx, .ref qy, .int 0, .int 0, .int 5])), (qx, .inl (cA, 10, .inl (fun _ => 0))), (qy, .inl (cA, 10, .inl (fun _ => 0)))] t.heap ∧ va_K D classes [(cA, .int)] t ∧ va_D (va_A [(h0, .inr (1, [.null, .null, .int 0, .int 0, .int 0]))] sz) [(h0, .inr (1, [.ref qx, .ref qy, .int 0, .int 0, .int 5])), (qx, .inl (cA, 10, .inl (fun _ => 0))), (qy, .inl (cA, 10, .inl (fun _ => 0)))]) (va_A [(h0, .inr (1, [.null, .null, .int 0, .int 0, .int 0]))] sz)) 2 20 (va_A [(h0, .inr (1, [.null, .null, .int 0, .int 0, .int 0]))] sz) := by
  refine Met.ofW (cc := cX1_init) (maxL := 1) (ret := none) (by decide) rfl ?_
  intro p e s m args below meth c s₁ B hml hv
  obtain ⟨rfl, hsz, hP, hK, hN, hD0⟩ := hv
  have hx := B.exec
  have hb := B.bytes
  have hr := B.returns
  have hts := atoms_spec (ws := wsX1_init) B.pre
  have hown : s.vm.findClass RX1 = some m.cls := findClass_of_methodNamed B.named
  have hlocks := B.notSynchronized
  have hin : meth.name = "<init>" := (name_of_methodNamed B.named B.method).1
  subst hsz
  have hD := hD0.self (sz := s.heap.size)
  generalize hAe : va_A [(h0, .inr (1, [.null, .null, .int 0, .int 0, .int 0]))] s.heap.size = A at hD ⊢
  have hA : ∀ q : Nat, s.heap.size ≤ q → A q := fun q h => by rw [← hAe]; exact Or.inr h
  have hS : va_S A s.heap s.heap [] := va_S.rf
  have hP : va_P D classes [(h0, .inr (1, [.null, .null, .int 0, .int 0, .int 0]))] s.heap := hP
  have hl := lv_entry ([.ref h0]) (n := 1) (Nat.le_of_ble_eq_true rfl)
  rw [lg_entry_eq]
  generalize (lg_sl ([.ref h0]) ++ List.replicate (1 - (lg_sl ([.ref h0])).length) Slot.unset).toArray = ls at hl ⊢
  have hl : lv_has ls 1 [(0, .ref h0)] := hl
  have hK0 : va_K D classes [] s := hK
  refine lv_aload_n hx hb dX1_init_0 rfl (lv_at hl 0 rfl) ?_
  refine W.objInit hx hb hown (hts (.methodLink RX1 3 objectInit) (List.mem_of_getElem? (i := 1) rfl)) (hts (.instanceMethod objectInit) (List.mem_of_getElem? (i := 2) rfl)) (hts (.code objectInit ⟨#[0xb1]⟩ 1 none) (List.mem_of_getElem? (i := 3) rfl)) rfl (by rw [hml]; exact hl.1) rfl dX1_init_1 (Nat.le_of_ble_eq_true rfl) (Nat.le_of_ble_eq_true rfl) ?_
  refine W.eq (g2 := F0 m 4 ls []) rfl ?_
  refine lv_aload_n hx hb dX1_init_4 rfl (lv_at hl 0 rfl) ?_
  refine lv_bipush (v := 10) hx hb dX1_init_5 (by decide) ?_
  refine va_newa (atype := .int) (n := 10) (N' := 10) (a0 := (10, .inl (fun _ => 0))) (ty := .int) hx hb (hts (.arrayClass .int) (List.mem_of_getElem? (i := 4) rfl)) rfl hK hP hD hS hA (fun _ => rfl) (by decide) (by decide) (Nat.le_of_ble_eq_true rfl) (Nat.le_of_ble_eq_true rfl) (Nat.le_of_ble_eq_true rfl) dX1_init_7 (fun qx cA H hK hP hD hS => ?_)
  have hP : va_P D classes [(h0, .inr (1, [.null, .null, .int 0, .int 0, .int 0])), (qx, .inl (cA, 10, .inl (fun _ => 0)))] H := hP
  have hD : va_D A [(h0, .inr (1, [.null, .null, .int 0, .int 0, .int 0])), (qx, .inl (cA, 10, .inl (fun _ => 0)))] := hD
  refine W.widen (k := 1) (n := 10) (by omega) (by omega) ?_
  refine va_putF (D := D) (ci := 1) (v := .ref qx) (ty := .array .int) (C := RX1) (T := TX1) (N := 5) hx hb hts iX1_init_X1 tyX1 tyX1_ok nmX1 hown hK hP hD hS 0 rfl rfl 0 (by decide) (hts (.fieldLink RX1 9 "CompassBias$Samples" "xs" "[I") (List.mem_of_getElem? (i := 5) rfl)) (fun _ h9 => h9) rfl hin rfl (by decide +kernel) rfl rfl (Nat.le_of_ble_eq_true rfl) dX1_init_9 (fun H locs hP hD hS => ?_)
  have hP : va_P D classes [(h0, .inr (1, [.ref qx, .null, .int 0, .int 0, .int 0])), (qx, .inl (cA, 10, .inl (fun _ => 0)))] H := hP
  have hD : va_D A [(h0, .inr (1, [.ref qx, .null, .int 0, .int 0, .int 0])), (qx, .inl (cA, 10, .inl (fun _ => 0)))] := hD
  refine lv_aload_n hx hb dX1_init_12 rfl (lv_at hl 0 rfl) ?_
  refine lv_bipush (v := 10) hx hb dX1_init_13 (by decide) ?_
  refine va_newa (atype := .int) (n := 10) (N' := 10) (a0 := (10, .inl (fun _ => 0))) (ty := .int) hx hb (hts (.arrayClass .int) (List.mem_of_getElem? (i := 4) rfl)) rfl hK hP hD hS hA (fun _ => rfl) (by decide) (by decide) (Nat.le_of_ble_eq_true rfl) (Nat.le_of_ble_eq_true rfl) (Nat.le_of_ble_eq_true rfl) dX1_init_15 (fun qy cB H hK hP hD hS => ?_)
  have hP : va_P D classes [(h0, .inr (1, [.ref qx, .null, .int 0, .int 0, .int 0])), (qx, .inl (cA, 10, .inl (fun _ => 0))), (qy, .inl (cB, 10, .inl (fun _ => 0)))] H := hP
  have hD : va_D A [(h0, .inr (1, [.ref qx, .null, .int 0, .int 0, .int 0])), (qx, .inl (cA, 10, .inl (fun _ => 0))), (qy, .inl (cB, 10, .inl (fun _ => 0)))] := hD
  refine W.widen (k := 2) (n := 20) (by omega) (by omega) ?_
  refine va_putF (D := D) (ci := 1) (v := .ref qy) (ty := .array .int) (C := RX1) (T := TX1) (N := 5) hx hb hts iX1_init_X1 tyX1 tyX1_ok nmX1 hown hK hP hD hS 0 rfl rfl 1 (by decide) (hts (.fieldLink RX1 15 "CompassBias$Samples" "ys" "[I") (List.mem_of_getElem? (i := 6) rfl)) (fun _ h9 => h9) rfl hin rfl (by decide +kernel) rfl rfl (Nat.le_of_ble_eq_true rfl) dX1_init_17 (fun H locs hP hD hS => ?_)
  have hP : va_P D classes [(h0, .inr (1, [.ref qx, .ref qy, .int 0, .int 0, .int 0])), (qx, .inl (cA, 10, .inl (fun _ => 0))), (qy, .inl (cB, 10, .inl (fun _ => 0)))] H := hP
  have hD : va_D A [(h0, .inr (1, [.ref qx, .ref qy, .int 0, .int 0, .int 0])), (qx, .inl (cA, 10, .inl (fun _ => 0))), (qy, .inl (cB, 10, .inl (fun _ => 0)))] := hD
  refine lv_aload_n hx hb dX1_init_20 rfl (lv_at hl 0 rfl) ?_
  refine lv_iconst (v := 0) hx hb dX1_init_21 (by decide) ?_
  refine va_put (D := D) (ci := 1) (v := .int 0) (ty := .int) (C := RX1) (T := TX1) (N := 5) hx hb hts iX1_init_X1 tyX1 tyX1_ok nmX1 hown hK hP hD hS 0 rfl rfl 2 (by decide) (hts (.fieldLink RX1 18 "CompassBias$Samples" "many" "I") (List.mem_of_getElem? (i := 7) rfl)) (fun _ h9 => h9) rfl (by decide +kernel) rfl rfl (Nat.le_of_ble_eq_true rfl) dX1_init_22 (fun H locs hP hD hS => ?_)
  have hP : va_P D classes [(h0, .inr (1, [.ref qx, .ref qy, .int 0, .int 0, .int 0])), (qx, .inl (cA, 10, .inl (fun _ => 0))), (qy, .inl (cB, 10, .inl (fun _ => 0)))] H := hP
  have hD : va_D A [(h0, .inr (1, [.ref qx, .ref qy, .int 0, .int 0, .int 0])), (qx, .inl (cA, 10, .inl (fun _ => 0))), (qy, .inl (cB, 10, .inl (fun _ => 0)))] := hD
  refine lv_aload_n hx hb dX1_init_25 rfl (lv_at hl 0 rfl) ?_
  refine lv_iconst (v := 0) hx hb dX1_init_26 (by decide) ?_
  refine va_put (D := D) (ci := 1) (v := .int 0) (ty := .int) (C := RX1) (T := TX1) (N := 5) hx hb hts iX1_init_X1 tyX1 tyX1_ok nmX1 hown hK hP hD hS 0 rfl rfl 3 (by decide) (hts (.fieldLink RX1 22 "CompassBias$Samples" "taken" "I") (List.mem_of_getElem? (i := 8) rfl)) (fun _ h9 => h9) rfl (by decide +kernel) rfl rfl (Nat.le_of_ble_eq_true rfl) dX1_init_27 (fun H locs hP hD hS => ?_)
  have hP : va_P D classes [(h0, .inr (1, [.ref qx, .ref qy, .int 0, .int 0, .int 0])), (qx, .inl (cA, 10, .inl (fun _ => 0))), (qy, .inl (cB, 10, .inl (fun _ => 0)))] H := hP
  have hD : va_D A [(h0, .inr (1, [.ref qx, .ref qy, .int 0, .int 0, .int 0])), (qx, .inl (cA, 10, .inl (fun _ => 0))), (qy, .inl (cB, 10, .inl (fun _ => 0)))] := hD
  refine lv_aload_n hx hb dX1_init_30 rfl (lv_at hl 0 rfl) ?_
  refine lv_iconst (v := 5) hx hb dX1_init_31 (by decide) ?_
  refine va_put (D := D) (ci := 1) (v := .int 5) (ty := .int) (C := RX1) (T := TX1) (N := 5) hx hb hts iX1_init_X1 tyX1 tyX1_ok nmX1 hown hK hP hD hS 0 rfl rfl 4 (by decide) (hts (.fieldLink RX1 25 "CompassBias$Samples" "needed" "I") (List.mem_of_getElem? (i := 9) rfl)) (fun _ h9 => h9) rfl (by decide +kernel) rfl rfl (Nat.le_of_ble_eq_true rfl) dX1_init_32 (fun H locs hP hD hS => ?_)
  have hP : va_P D classes [(h0, .inr (1, [.ref qx, .ref qy, .int 0, .int 0, .int 5])), (qx, .inl (cA, 10, .inl (fun _ => 0))), (qy, .inl (cB, 10, .inl (fun _ => 0)))] H := hP
  have hD : va_D A [(h0, .inr (1, [.ref qx, .ref qy, .int 0, .int 0, .int 5])), (qx, .inl (cA, 10, .inl (fun _ => 0))), (qy, .inl (cB, 10, .inl (fun _ => 0)))] := hD
  have hKa := hK.sub (tys' := [(cA, .int)]) [0] rfl
  have hKb := hK.sub (tys' := [(cB, .int)]) [1] rfl
  obtain rfl := ci_uniq (fun C h => by cases h) hKa hKb
  exact W.vret hx hb hr (fun t ht hW => ⟨⟨(), rfl, trivial, qx, qy, cA, by rw [ht]; exact hP, va_K.moved hW.alike hKa, hD⟩, hS.F ht⟩) hS.2.2 dX1_init_35
theorem iX3_init_X3 : ∀ w ∈ u_ws RX3 TX3 16, w ∈ wsX3_init := fun _ h => List.mem_cons_of_mem _ (List.mem_append_right _ (h))
set_option maxHeartbeats 4000000 in
set_option maxRecDepth 100000 in
theorem c_X3_init (l : Launch) (D : va_G) (h0 : Nat) (sz : Nat) : Met l yX3_init wsX3_init ({ frames := 1, cells := 3, slots := 71, locals := 12 } : Room) (va_Pc [.ref h0] (fun U => U.heap.size = sz ∧ va_P D classes [(h0, .inr (3, [.null, .null, .null, .long 0, .long 0, .long 0, .long 0, .long 0, .long 0, .long 0, .long 0, .long 0, .long 0, .long 0, .long 0, .long 0]))] U.heap ∧ va_K D classes [] U ∧ True ∧ va_D (fun _ => True) [(h0, .inr (3, [.null, .null, .null, .long 0, .long 0, .long 0, .long 0, .long 0, .long 0, .long 0, .long 0, .long 0, .long 0, .long 0, .long 0, .long 0]))])) (va_Qv (fun _ : Unit => True) (fun _ t => ∃ (qs qi qk : Nat) (cA cZ : ClassId), va_P D classes [(h0, .inr (3, mdv qs qi qk (0, 0, 0, 0, 0, 0, 0, 0, 0, 0, 0, 0, 0))), (qs, .inl (cA, 23, .inl (upd (fun _ => 0) 22 5))), (qi, .inl (cA, 46, .inl (fun _ => 0))), (qk, .inl (cZ, 2, .inl (fun _ => 0)))] t.heap ∧ va_K D classes [(cA, .int)] t ∧ va_K D classes [(cZ, .boolean)] t ∧ va_D (va_A [(h0, .inr (3, [.null, .null, .null, .long 0, .long 0, .long 0, .long 0, .long 0, .long 0, .long 0, .long 0, .long 0, .long 0, .long 0, .long 0, .long 0]))] sz) [(h0, .inr (3, mdv qs qi qk (0, 0, 0, 0, 0, 0, 0, 0, 0, 0, 0, 0, 0))), (qs, .inl (cA, 23, .inl (upd (fun _ => 0) 22 5))), (qi, .inl (cA, 46, .inl (fun _ => 0))), (qk, .inl (cZ, 2, .inl (fun _ => 0)))]) (va_A [(h0, .inr (3, [.null, .null, .null, .long 0, .long 0, .long 0, .long 0, .long 0, .long 0, .long 0, .long 0, .long 0, .long 0, .long 0, .long 0, .long 0]))] sz)) 3 71 (va_A [(h0, .inr (3, [.null, .null, .null, .long 0, .long 0, .long 0, .long 0, .long 0, .long 0, .long 0, .long 0, .long 0, .long 0, .long 0, .long 0, .long 0]))] sz) := by
  refine Met.ofW (cc := cX3_init) (maxL := 1) (ret := none) (by decide) rfl ?_
  intro p e s m args below meth c s₁ B hml hv
  obtain ⟨rfl, hsz, hP, hK, hN, hD0⟩ := hv
  have hx := B.exec
  have hb := B.bytes
  have hr := B.returns
  have hts := atoms_spec (ws := wsX3_init) B.pre
  have hown : s.vm.findClass RX3 = some m.cls := findClass_of_methodNamed B.named
  have hlocks := B.notSynchronized
  have hin : meth.name = "<init>" := (name_of_methodNamed B.named B.method).1
  subst hsz
  have hD := hD0.self (sz := s.heap.size)
  generalize hAe : va_A [(h0, .inr (3, [.null, .null, .null, .long 0, .long 0, .long 0, .long 0, .long 0, .long 0, .long 0, .long 0, .long 0, .long 0, .long 0, .long 0, .long 0]))] s.heap.size = A at hD ⊢
  have hA : ∀ q : Nat, s.heap.size ≤ q → A q := fun q h => by rw [← hAe]; exact Or.inr h
  have hS : va_S A s.heap s.heap [] := va_S.rf
  have hP : va_P D classes [(h0, .inr (3, [.null, .null, .null, .long 0, .long 0, .long 0, .long 0, .long 0, .long 0, .long 0, .long 0, .long 0, .long 0, .long 0, .long 0, .long 0]))] s.heap := hP
  have hl := lv_entry ([.ref h0]) (n := 1) (Nat.le_of_ble_eq_true rfl)
  rw [lg_entry_eq]
  generalize (lg_sl ([.ref h0]) ++ List.replicate (1 - (lg_sl ([.ref h0])).length) Slot.unset).toArray = ls at hl ⊢
  have hl : lv_has ls 1 [(0, .ref h0)] := hl
  have hK0 : va_K D classes [] s := hK
  refine lv_aload_n hx hb dX3_init_0 rfl (lv_at hl 0 rfl) ?_
  refine W.objInit hx hb hown (hts (.methodLink RX3 1 objectInit) (List.mem_of_getElem? (i := 1) rfl)) (hts (.instanceMethod objectInit) (List.mem_of_getElem? (i := 2) rfl)) (hts (.code objectInit ⟨#[0xb1]⟩ 1 none) (List.mem_of_getElem? (i := 3) rfl)) rfl (by rw [hml]; exact hl.1) rfl dX3_init_1 (Nat.le_of_ble_eq_true rfl) (Nat.le_of_ble_eq_true rfl) ?_
  refine W.eq (g2 := F0 m 4 ls []) rfl ?_
  refine lv_aload_n hx hb dX3_init_4 rfl (lv_at hl 0 rfl) ?_
  refine lv_bipush (v := 23) hx hb dX3_init_5 (by decide) ?_
  refine va_newa (atype := .int) (n := 23) (N' := 23) (a0 := (23, .inl (fun _ => 0))) (ty := .int) hx hb (hts (.arrayClass .int) (List.mem_of_getElem? (i := 4) rfl)) rfl hK hP hD hS hA (fun _ => rfl) (by decide) (by decide) (Nat.le_of_ble_eq_true rfl) (Nat.le_of_ble_eq_true rfl) (Nat.le_of_ble_eq_true rfl) dX3_init_7 (fun qs cA H hK hP hD hS => ?_)
  have hP : va_P D classes [(h0, .inr (3, [.null, .null, .null, .long 0, .long 0, .long 0, .long 0, .long 0, .long 0, .long 0, .long 0, .long 0, .long 0, .long 0, .long 0, .long 0])), (qs, .inl (cA, 23, .inl (fun _ => 0)))] H := hP
  have hD : va_D A [(h0, .inr (3, [.null, .null, .null, .long 0, .long 0, .long 0, .long 0, .long 0, .long 0, .long 0, .long 0, .long 0, .long 0, .long 0, .long 0, .long 0])), (qs, .inl (cA, 23, .inl (fun _ => 0)))] := hD
  refine W.widen (k := 1) (n := 23) (by omega) (by omega) ?_
  refine va_putF (D := D) (ci := 3) (v := .ref qs) (ty := .array .int) (C := RX3) (T := TX3) (N := 16) hx hb hts iX3_init_X3 tyX3 tyX3_ok nmX3 hown hK hP hD hS 0 rfl rfl 0 (by decide) (hts (.fieldLink RX3 7 "CompassBiasModel" "state" "[I") (List.mem_of_getElem? (i := 5) rfl)) (fun _ h9 => h9) rfl hin rfl (by decide +kernel) rfl rfl (Nat.le_of_ble_eq_true rfl) dX3_init_9 (fun H locs hP hD hS => ?_)
  have hP : va_P D classes [(h0, .inr (3, [.ref qs, .null, .null, .long 0, .long 0, .long 0, .long 0, .long 0, .long 0, .long 0, .long 0, .long 0, .long 0, .long 0, .long 0, .long 0])), (qs, .inl (cA, 23, .inl (fun _ => 0)))] H := hP
  have hD : va_D A [(h0, .inr (3, [.ref qs, .null, .null, .long 0, .long 0, .long 0, .long 0, .long 0, .long 0, .long 0, .long 0, .long 0, .long 0, .long 0, .long 0, .long 0])), (qs, .inl (cA, 23, .inl (fun _ => 0)))] := hD
  refine lv_aload_n hx hb dX3_init_12 rfl (lv_at hl 0 rfl) ?_
  refine lv_bipush (v := 46) hx hb dX3_init_13 (by decide) ?_
  refine va_newa (atype := .int) (n := 46) (N' := 46) (a0 := (46, .inl (fun _ => 0))) (ty := .int) hx hb (hts (.arrayClass .int) (List.mem_of_getElem? (i := 4) rfl)) rfl hK hP hD hS hA (fun _ => rfl) (by decide) (by decide) (Nat.le_of_ble_eq_true rfl) (Nat.le_of_ble_eq_true rfl) (Nat.le_of_ble_eq_true rfl) dX3_init_15 (fun qi cB H hK hP hD hS => ?_)
  have hP : va_P D classes [(h0, .inr (3, [.ref qs, .null, .null, .long 0, .long 0, .long 0, .long 0, .long 0, .long 0, .long 0, .long 0, .long 0, .long 0, .long 0, .long 0, .long 0])), (qs, .inl (cA, 23, .inl (fun _ => 0))), (qi, .inl (cB, 46, .inl (fun _ => 0)))] H := hP
  have hD : va_D A [(h0, .inr (3, [.ref qs, .null, .null, .long 0, .long 0, .long 0, .long 0, .long 0, .long 0, .long 0, .long 0, .long 0, .long 0, .long 0, .long 0, .long 0])), (qs, .inl (cA, 23, .inl (fun _ => 0))), (qi, .inl (cB, 46, .inl (fun _ => 0)))] := hD
  refine W.widen (k := 2) (n := 69) (by omega) (by omega) ?_
  refine va_putF (D := D) (ci := 3) (v := .ref qi) (ty := .array .int) (C := RX3) (T := TX3) (N := 16) hx hb hts iX3_init_X3 tyX3 tyX3_ok nmX3 hown hK hP hD hS 0 rfl rfl 1 (by decide) (hts (.fieldLink RX3 13 "CompassBiasModel" "images" "[I") (List.mem_of_getElem? (i := 6) rfl)) (fun _ h9 => h9) rfl hin rfl (by decide +kernel) rfl rfl (Nat.le_of_ble_eq_true rfl) dX3_init_17 (fun H locs hP hD hS => ?_)
  have hP : va_P D classes [(h0, .inr (3, [.ref qs, .ref qi, .null, .long 0, .long 0, .long 0, .long 0, .long 0, .long 0, .long 0, .long 0, .long 0, .long 0, .long 0, .long 0, .long 0])), (qs, .inl (cA, 23, .inl (fun _ => 0))), (qi, .inl (cB, 46, .inl (fun _ => 0)))] H := hP
  have hD : va_D A [(h0, .inr (3, [.ref qs, .ref qi, .null, .long 0, .long 0, .long 0, .long 0, .long 0, .long 0, .long 0, .long 0, .long 0, .long 0, .long 0, .long 0, .long 0])), (qs, .inl (cA, 23, .inl (fun _ => 0))), (qi, .inl (cB, 46, .inl (fun _ => 0)))] := hD
  refine lv_aload_n hx hb dX3_init_20 rfl (lv_at hl 0 rfl) ?_
  refine lv_iconst (v := 2) hx hb dX3_init_21 (by decide) ?_
  refine va_newa (atype := .boolean) (n := 2) (N' := 2) (a0 := (2, .inl (fun _ => 0))) (ty := .boolean) hx hb (hts (.arrayClass .boolean) (List.mem_of_getElem? (i := 7) rfl)) rfl hK hP hD hS hA (fun _ => rfl) (by decide) (by decide) (Nat.le_of_ble_eq_true rfl) (Nat.le_of_ble_eq_true rfl) (Nat.le_of_ble_eq_true rfl) dX3_init_22 (fun qk cZ H hK hP hD hS => ?_)
  have hP : va_P D classes [(h0, .inr (3, [.ref qs, .ref qi, .null, .long 0, .long 0, .long 0, .long 0, .long 0, .long 0, .long 0, .long 0, .long 0, .long 0, .long 0, .long 0, .long 0])), (qs, .inl (cA, 23, .inl (fun _ => 0))), (qi, .inl (cB, 46, .inl (fun _ => 0))), (qk, .inl (cZ, 2, .inl (fun _ => 0)))] H := hP
  have hD : va_D A [(h0, .inr (3, [.ref qs, .ref qi, .null, .long 0, .long 0, .long 0, .long 0, .long 0, .long 0, .long 0, .long 0, .long 0, .long 0, .long 0, .long 0, .long 0])), (qs, .inl (cA, 23, .inl (fun _ => 0))), (qi, .inl (cB, 46, .inl (fun _ => 0))), (qk, .inl (cZ, 2, .inl (fun _ => 0)))] := hD
  refine W.widen (k := 3) (n := 71) (by omega) (by omega) ?_
  refine va_putF (D := D) (ci := 3) (v := .ref qk) (ty := .array .boolean) (C := RX3) (T := TX3) (N := 16) hx hb hts iX3_init_X3 tyX3 tyX3_ok nmX3 hown hK hP hD hS 0 rfl rfl 2 (by decide) (hts (.fieldLink RX3 16 "CompassBiasModel" "isKept" "[Z") (List.mem_of_getElem? (i := 8) rfl)) (fun _ h9 => h9) rfl hin rfl (by decide +kernel) rfl rfl (Nat.le_of_ble_eq_true rfl) dX3_init_24 (fun H locs hP hD hS => ?_)
  have hP : va_P D classes [(h0, .inr (3, [.ref qs, .ref qi, .ref qk, .long 0, .long 0, .long 0, .long 0, .long 0, .long 0, .long 0, .long 0, .long 0, .long 0, .long 0, .long 0, .long 0])), (qs, .inl (cA, 23, .inl (fun _ => 0))), (qi, .inl (cB, 46, .inl (fun _ => 0))), (qk, .inl (cZ, 2, .inl (fun _ => 0)))] H := hP
  have hD : va_D A [(h0, .inr (3, [.ref qs, .ref qi, .ref qk, .long 0, .long 0, .long 0, .long 0, .long 0, .long 0, .long 0, .long 0, .long 0, .long 0, .long 0, .long 0, .long 0])), (qs, .inl (cA, 23, .inl (fun _ => 0))), (qi, .inl (cB, 46, .inl (fun _ => 0))), (qk, .inl (cZ, 2, .inl (fun _ => 0)))] := hD
  have hKa := hK.sub (tys' := [(cA, .int)]) [0] rfl
  have hKb := hK.sub (tys' := [(cB, .int)]) [1] rfl
  have hKz := hK.sub (tys' := [(cZ, .boolean)]) [2] rfl
  refine lv_aload_n hx hb dX3_init_27 rfl (lv_at hl 0 rfl) ?_
  refine va_get (D := D) (ci := 3) (v := .ref qs) (C := RX3) (T := TX3) (N := 16) hx hb hts iX3_init_X3 hown hK hP 0 rfl rfl 0 (by decide) (hts (.fieldLink RX3 7 "CompassBiasModel" "state" "[I") (List.mem_of_getElem? (i := 5) rfl)) (fun _ h9 => h9) rfl dX3_init_28 ?_
  refine lv_bipush (v := 22) hx hb dX3_init_31 (by decide) ?_
  refine lv_iconst (v := 5) hx hb dX3_init_33 (by decide) ?_
  refine va_iast hx hb hK hP hD hS 1 0 rfl rfl (vp_lit (by decide)) dX3_init_34 (fun H locs hP hD hS => ?_)
  have hP : va_P D classes [(h0, .inr (3, [.ref qs, .ref qi, .ref qk, .long 0, .long 0, .long 0, .long 0, .long 0, .long 0, .long 0, .long 0, .long 0, .long 0, .long 0, .long 0, .long 0])), (qs, .inl (cA, 23, .inl (upd (fun _ => 0) 22 5))), (qi, .inl (cB, 46, .inl (fun _ => 0))), (qk, .inl (cZ, 2, .inl (fun _ => 0)))] H := hP
  have hD : va_D A [(h0, .inr (3, [.ref qs, .ref qi, .ref qk, .long 0, .long 0, .long 0, .long 0, .long 0, .long 0, .long 0, .long 0, .long 0, .long 0, .long 0, .long 0, .long 0])), (qs, .inl (cA, 23, .inl (upd (fun _ => 0) 22 5))), (qi, .inl (cB, 46, .inl (fun _ => 0))), (qk, .inl (cZ, 2, .inl (fun _ => 0)))] := hD
  obtain rfl := ci_uniq (fun C h => by cases h) hKa hKb
  exact W.vret hx hb hr (fun t ht hW => ⟨⟨(), rfl, trivial, qs, qi, qk, cA, cZ, by rw [ht]; exact hP, va_K.moved hW.alike hKa, va_K.moved hW.alike hKz, hD⟩, hS.F ht⟩) hS.2.2 dX3_init_35
theorem iX2_init_X0 : ∀ w ∈ u_ws RX0 TX0 13, w ∈ wsX2_init := fun _ h => List.mem_cons_of_mem _ (List.mem_append_right _ (h))
theorem iX2_init_X1 : ∀ w ∈ u_ws RX1 TX1 5, w ∈ wsX2_init := fun _ h => List.mem_cons_of_mem _ (List.mem_append_left _ (List.mem_append_left _ (List.mem_append_right _ (h))))
theorem iX2_init_X2 : ∀ w ∈ u_ws RX2 TX2 6, w ∈ wsX2_init := fun _ h => List.mem_cons_of_mem _ (List.mem_append_left _ (List.mem_append_right _ (h)))
set_option maxHeartbeats 4000000 in
set_option maxRecDepth 100000 in
theorem c_X2_init (l : Launch) (D : va_G) (h0 : Nat) (sz : Nat) : Met l yX2_init wsX2_init ({ frames := 2, cells := 11, slots := 101, locals := 32 } : Room) (va_Pc [.ref h0] (fun U => U.heap.size = sz ∧ va_P D classes [(h0, .inr (2, [.null, .null, .null, .int 0, .null, .null]))] U.heap ∧ va_K D classes [] U ∧ va_Nw (.methodLinkNest RX2 28 yX0_init RX2) U ∧ va_D (fun _ => True) [(h0, .inr (2, [.null, .null, .null, .int 0, .null, .null]))])) (va_Qv (fun _ : Unit => True) (fun _ t => ∃ (q0 x0 y0 q1 x1 y1 q2 x2 y2 q3 q4 : Nat) (c0 : ClassId), va_P D classes [(h0, .inr (2, [.ref q0, .ref q1, .ref q2, .int 0, .ref q3, .ref q4])), (q0, .inr (1, [.ref x0, .ref y0, .int 0, .int 0, .int 5])), (x0, .inl (c0, 10, .inl (fun _ => 0))), (y0, .inl (c0, 10, .inl (fun _ => 0))), (q1, .inr (1, [.ref x1, .ref y1, .int 0, .int 0, .int 5])), (x1, .inl (c0, 10, .inl (fun _ => 0))), (y1, .inl (c0, 10, .inl (fun _ => 0))), (q2, .inr (1, [.ref x2, .ref y2, .int 0, .int 0, .int 5])), (x2, .inl (c0, 10, .inl (fun _ => 0))), (y2, .inl (c0, 10, .inl (fun _ => 0))), (q3, .inr (0, rdv (0, 0, 0, 0, 0, 0, 0, 0, 0, 0, 0, 0, 0))), (q4, .inr (0, rdv (0, 0, 0, 0, 0, 0, 0, 0, 0, 0, 0, 0, 0)))] t.heap ∧ va_K D classes [(c0, .int)] t ∧ va_D (va_A [(h0, .inr (2, [.null, .null, .null, .int 0, .null, .null]))] sz) [(h0, .inr (2, [.ref q0, .ref q1, .ref q2, .int 0, .ref q3, .ref q4])), (q0, .inr (1, [.ref x0, .ref y0, .int 0, .int 0, .int 5])), (x0, .inl (c0, 10, .inl (fun _ => 0))), (y0, .inl (c0, 10, .inl (fun _ => 0))), (q1, .inr (1, [.ref x1, .ref y1, .int 0, .int 0, .int 5])), (x1, .inl (c0, 10, .inl (fun _ => 0))), (y1, .inl (c0, 10, .inl (fun _ => 0))), (q2, .inr (1, [.ref x2, .ref y2, .int 0, .int 0, .int 5])), (x2, .inl (c0, 10, .inl (fun _ => 0))), (y2, .inl (c0, 10, .inl (fun _ => 0))), (q3, .inr (0, rdv (0, 0, 0, 0, 0, 0, 0, 0, 0, 0, 0, 0, 0))), (q4, .inr (0, rdv (0, 0, 0, 0, 0, 0, 0, 0, 0, 0, 0, 0, 0)))]) (va_A [(h0, .inr (2, [.null, .null, .null, .int 0, .null, .null]))] sz)) 11 101 (va_A [(h0, .inr (2, [.null, .null, .null, .int 0, .null, .null]))] sz) := by
  refine Met.ofW (cc := cX2_init) (maxL := 1) (ret := none) (by decide) rfl ?_
  intro p e s m args below meth c s₁ B hml hv
  obtain ⟨rfl, hsz, hP, hK, hN, hD0⟩ := hv
  have hx := B.exec
  have hb := B.bytes
  have hr := B.returns
  have hts := atoms_spec (ws := wsX2_init) B.pre
  have hown : s.vm.findClass RX2 = some m.cls := findClass_of_methodNamed B.named
  have hlocks := B.notSynchronized
  have hin : meth.name = "<init>" := (name_of_methodNamed B.named B.method).1
  subst hsz
  have hD := hD0.self (sz := s.heap.size)
  generalize hAe : va_A [(h0, .inr (2, [.null, .null, .null, .int 0, .null, .null]))] s.heap.size = A at hD ⊢
  have hA : ∀ q : Nat, s.heap.size ≤ q → A q := fun q h => by rw [← hAe]; exact Or.inr h
  have hS : va_S A s.heap s.heap [] := va_S.rf
  have hP : va_P D classes [(h0, .inr (2, [.null, .null, .null, .int 0, .null, .null]))] s.heap := hP
  have hl := lv_entry ([.ref h0]) (n := 1) (Nat.le_of_ble_eq_true rfl)
  rw [lg_entry_eq]
  generalize (lg_sl ([.ref h0]) ++ List.replicate (1 - (lg_sl ([.ref h0])).length) Slot.unset).toArray = ls at hl ⊢
  have hl : lv_has ls 1 [(0, .ref h0)] := hl
  have hK0 : va_K D classes [] s := hK
  refine lv_aload_n hx hb dX2_init_0 rfl (lv_at hl 0 rfl) ?_
  refine W.objInit hx hb hown (hts (.methodLink RX2 3 objectInit) (List.mem_of_getElem? (i := 1) rfl)) (hts (.instanceMethod objectInit) (List.mem_of_getElem? (i := 2) rfl)) (hts (.code objectInit ⟨#[0xb1]⟩ 1 none) (List.mem_of_getElem? (i := 3) rfl)) rfl (by rw [hml]; exact hl.1) rfl dX2_init_1 (Nat.le_of_ble_eq_true rfl) (Nat.le_of_ble_eq_true rfl) ?_
  refine W.eq (g2 := F0 m 4 ls []) rfl ?_
  refine lv_aload_n hx hb dX2_init_4 rfl (lv_at hl 0 rfl) ?_
  refine va_new (ci := 1) (fs := [.null, .null, .int 0, .int 0, .int 0]) (C := RX1) (T := TX1) (N := 5) hx hb hts iX2_init_X1 tyX1 tyX1_ok hown (hts (.classLink RX2 9 RX1) (List.mem_of_getElem? (i := 4) rfl)) (hts (.instantiable RX1 5) (List.mem_of_getElem? (i := 5) rfl)) (hts (.initialized RX1) (List.mem_of_getElem? (i := 6) rfl)) hK hP hD hS hA rfl (fun j hj => by rcases (show j = 0 ∨ j = 1 ∨ j = 2 ∨ j = 3 ∨ j = 4 by omega) with rfl | rfl | rfl | rfl | rfl <;> rfl) (Nat.le_of_ble_eq_true rfl) (Nat.le_of_ble_eq_true rfl) dX2_init_5 (fun q0 H hP hD hS => ?_)
  have hP : va_P D classes [(h0, .inr (2, [.null, .null, .null, .int 0, .null, .null])), (q0, .inr (1, [.null, .null, .int 0, .int 0, .int 0]))] H := hP
  have hD : va_D A [(h0, .inr (2, [.null, .null, .null, .int 0, .null, .null])), (q0, .inr (1, [.null, .null, .int 0, .int 0, .int 0]))] := hD
  refine W.widen (k := 1) (n := 5) (by omega) (by omega) ?_
  refine lv_dup hx hb dX2_init_8 rfl ?_
  have hPc := hP.sub (ws' := [(q0, .inr (1, [.null, .null, .int 0, .int 0, .int 0]))]) [1] rfl
  have hDc := hD.sub (ws' := [(q0, .inr (1, [.null, .null, .int 0, .int 0, .int 0]))]) [1] (by decide) rfl
  have hFc := va_free (wc := [(q0, .inr (1, [.null, .null, .int 0, .int 0, .int 0]))]) hD hS hA [1] rfl
  refine va_callv (va_runI (As := []) (rest := [.ref q0, .ref h0]) ⟨hx, hb, hml, hown, hts⟩ (c_X1_init l D q0 H.size) (cwI 0 hts gX2_init_X1_init rfl rfl rfl (hts (.initialized RX1) (List.mem_of_getElem? (i := 6) rfl)) (hts (.methodLink RX2 11 yX1_init) (List.mem_of_getElem? (i := 16) rfl)) (hts (.instanceMethod yX1_init) (List.mem_of_getElem? (i := 17) rfl)) rfl (by decide +kernel) ⟨Nat.le_of_ble_eq_true rfl, Nat.le_of_ble_eq_true rfl⟩) ⟨fun a U g mk q => ⟨q.1, q.2.1, q.2.2.1, va_K.moved (u := U) (U := U.calling g mk a) (Vm.Alike.refl U.vm) q.2.2.2.1, q.2.2.2.2⟩, fun U hU hW => ⟨rfl, by rw [hU], by rw [hU]; exact hPc, va_K.moved hW.alike hK0, trivial, hDc.weaken (fun _ _ _ _ => trivial)⟩⟩ rfl rfl hl.1 rfl (lv_room (Nat.le_of_ble_eq_true rfl)) dX2_init_9 ⟨Nat.le_of_ble_eq_true rfl, Nat.le_of_ble_eq_true rfl⟩) hS (fun q _ h => hFc q h) hFc (fun u t H1 locs ht hvm hw hB hz1 hk1 hS => ?_)
  obtain ⟨x0, y0, c0, hP1, hK1, hD1⟩ := hB
  rw [ht] at hP1
  have hKa0 := va_K.moved hvm.symm hK1
  obtain ⟨hP, hD⟩ := va_join (wr := [(h0, .inr (2, [.null, .null, .null, .int 0, .null, .null]))]) (w1 := [(q0, .inr (1, [.ref x0, .ref y0, .int 0, .int 0, .int 5])), (x0, .inl (c0, 10, .inl (fun _ => 0))), (y0, .inl (c0, 10, .inl (fun _ => 0)))]) hP hD [1] [0] rfl rfl (by decide) (by decide) hk1 hFc hP1 hD1
  generalize H1 = H at hP hS ⊢
  have hP : va_P D classes [(h0, .inr (2, [.null, .null, .null, .int 0, .null, .null])), (q0, .inr (1, [.ref x0, .ref y0, .int 0, .int 0, .int 5])), (x0, .inl (c0, 10, .inl (fun _ => 0))), (y0, .inl (c0, 10, .inl (fun _ => 0)))] H := hP
  have hD : va_D A [(h0, .inr (2, [.null, .null, .null, .int 0, .null, .null])), (q0, .inr (1, [.ref x0, .ref y0, .int 0, .int 0, .int 5])), (x0, .inl (c0, 10, .inl (fun _ => 0))), (y0, .inl (c0, 10, .inl (fun _ => 0)))] := hD
  refine W.widen (k := 3) (n := 25) (by omega) (by omega) ?_
  refine va_putF (D := D) (ci := 2) (v := .ref q0) (ty := .object "CompassBias$Samples") (C := RX2) (T := TX2) (N := 6) hx hb hts iX2_init_X2 tyX2 tyX2_ok nmX2 hown hK hP hD hS 0 rfl rfl 0 (by decide) (hts (.fieldLink RX2 12 "CompassBias" "now" "LCompassBias$Samples;") (List.mem_of_getElem? (i := 7) rfl)) (fun _ h9 => h9) rfl hin rfl (by decide +kernel) rfl rfl (Nat.le_of_ble_eq_true rfl) dX2_init_12 (fun H locs hP hD hS => ?_)
  have hP : va_P D classes [(h0, .inr (2, [.ref q0, .null, .null, .int 0, .null, .null])), (q0, .inr (1, [.ref x0, .ref y0, .int 0, .int 0, .int 5])), (x0, .inl (c0, 10, .inl (fun _ => 0))), (y0, .inl (c0, 10, .inl (fun _ => 0)))] H := hP
  have hD : va_D A [(h0, .inr (2, [.ref q0, .null, .null, .int 0, .null, .null])), (q0, .inr (1, [.ref x0, .ref y0, .int 0, .int 0, .int 5])), (x0, .inl (c0, 10, .inl (fun _ => 0))), (y0, .inl (c0, 10, .inl (fun _ => 0)))] := hD
  refine lv_aload_n hx hb dX2_init_15 rfl (lv_at hl 0 rfl) ?_
  refine va_new (ci := 1) (fs := [.null, .null, .int 0, .int 0, .int 0]) (C := RX1) (T := TX1) (N := 5) hx hb hts iX2_init_X1 tyX1 tyX1_ok hown (hts (.classLink RX2 9 RX1) (List.mem_of_getElem? (i := 4) rfl)) (hts (.instantiable RX1 5) (List.mem_of_getElem? (i := 5) rfl)) (hts (.initialized RX1) (List.mem_of_getElem? (i := 6) rfl)) hK hP hD hS hA rfl (fun j hj => by rcases (show j = 0 ∨ j = 1 ∨ j = 2 ∨ j = 3 ∨ j = 4 by omega) with rfl | rfl | rfl | rfl | rfl <;> rfl) (Nat.le_of_ble_eq_true rfl) (Nat.le_of_ble_eq_true rfl) dX2_init_16 (fun q1 H hP hD hS => ?_)
  have hP : va_P D classes [(h0, .inr (2, [.ref q0, .null, .null, .int 0, .null, .null])), (q0, .inr (1, [.ref x0, .ref y0, .int 0, .int 0, .int 5])), (x0, .inl (c0, 10, .inl (fun _ => 0))), (y0, .inl (c0, 10, .inl (fun _ => 0))), (q1, .inr (1, [.null, .null, .int 0, .int 0, .int 0]))] H := hP
  have hD : va_D A [(h0, .inr (2, [.ref q0, .null, .null, .int 0, .null, .null])), (q0, .inr (1, [.ref x0, .ref y0, .int 0, .int 0, .int 5])), (x0, .inl (c0, 10, .inl (fun _ => 0))), (y0, .inl (c0, 10, .inl (fun _ => 0))), (q1, .inr (1, [.null, .null, .int 0, .int 0, .int 0]))] := hD
  refine W.widen (k := 4) (n := 30) (by omega) (by omega) ?_
  refine lv_dup hx hb dX2_init_19 rfl ?_
  have hPc := hP.sub (ws' := [(q1, .inr (1, [.null, .null, .int 0, .int 0, .int 0]))]) [4] rfl
  have hDc := hD.sub (ws' := [(q1, .inr (1, [.null, .null, .int 0, .int 0, .int 0]))]) [4] (by decide) rfl
  have hFc := va_free (wc := [(q1, .inr (1, [.null, .null, .int 0, .int 0, .int 0]))]) hD hS hA [4] rfl
  refine va_callv (va_runI (As := []) (rest := [.ref q1, .ref h0]) ⟨hx, hb, hml, hown, hts⟩ (c_X1_init l D q1 H.size) (cwI 0 hts gX2_init_X1_init rfl rfl rfl (hts (.initialized RX1) (List.mem_of_getElem? (i := 6) rfl)) (hts (.methodLink RX2 11 yX1_init) (List.mem_of_getElem? (i := 16) rfl)) (hts (.instanceMethod yX1_init) (List.mem_of_getElem? (i := 17) rfl)) rfl (by decide +kernel) ⟨Nat.le_of_ble_eq_true rfl, Nat.le_of_ble_eq_true rfl⟩) ⟨fun a U g mk q => ⟨q.1, q.2.1, q.2.2.1, va_K.moved (u := U) (U := U.calling g mk a) (Vm.Alike.refl U.vm) q.2.2.2.1, q.2.2.2.2⟩, fun U hU hW => ⟨rfl, by rw [hU], by rw [hU]; exact hPc, va_K.moved hW.alike hK0, trivial, hDc.weaken (fun _ _ _ _ => trivial)⟩⟩ rfl rfl hl.1 rfl (lv_room (Nat.le_of_ble_eq_true rfl)) dX2_init_20 ⟨Nat.le_of_ble_eq_true rfl, Nat.le_of_ble_eq_true rfl⟩) hS (fun q _ h => hFc q h) hFc (fun u t H1 locs ht hvm hw hB hz1 hk1 hS => ?_)
  obtain ⟨x1, y1, c1, hP1, hK1, hD1⟩ := hB
  rw [ht] at hP1
  have hKa1 := va_K.moved hvm.symm hK1
  obtain ⟨hP, hD⟩ := va_join (wr := [(h0, .inr (2, [.ref q0, .null, .null, .int 0, .null, .null])), (q0, .inr (1, [.ref x0, .ref y0, .int 0, .int 0, .int 5])), (x0, .inl (c0, 10, .inl (fun _ => 0))), (y0, .inl (c0, 10, .inl (fun _ => 0)))]) (w1 := [(q1, .inr (1, [.ref x1, .ref y1, .int 0, .int 0, .int 5])), (x1, .inl (c1, 10, .inl (fun _ => 0))), (y1, .inl (c1, 10, .inl (fun _ => 0)))]) hP hD [4] [0, 1, 2, 3] rfl rfl (by decide) (by decide) hk1 hFc hP1 hD1
  generalize H1 = H at hP hS ⊢
  have hP : va_P D classes [(h0, .inr (2, [.ref q0, .null, .null, .int 0, .null, .null])), (q0, .inr (1, [.ref x0, .ref y0, .int 0, .int 0, .int 5])), (x0, .inl (c0, 10, .inl (fun _ => 0))), (y0, .inl (c0, 10, .inl (fun _ => 0))), (q1, .inr (1, [.ref x1, .ref y1, .int 0, .int 0, .int 5])), (x1, .inl (c1, 10, .inl (fun _ => 0))), (y1, .inl (c1, 10, .inl (fun _ => 0)))] H := hP
  have hD : va_D A [(h0, .inr (2, [.ref q0, .null, .null, .int 0, .null, .null])), (q0, .inr (1, [.ref x0, .ref y0, .int 0, .int 0, .int 5])), (x0, .inl (c0, 10, .inl (fun _ => 0))), (y0, .inl (c0, 10, .inl (fun _ => 0))), (q1, .inr (1, [.ref x1, .ref y1, .int 0, .int 0, .int 5])), (x1, .inl (c1, 10, .inl (fun _ => 0))), (y1, .inl (c1, 10, .inl (fun _ => 0)))] := hD
  refine W.widen (k := 6) (n := 50) (by omega) (by omega) ?_
  refine va_putF (D := D) (ci := 2) (v := .ref q1) (ty := .object "CompassBias$Samples") (C := RX2) (T := TX2) (N := 6) hx hb hts iX2_init_X2 tyX2 tyX2_ok nmX2 hown hK hP hD hS 0 rfl rfl 1 (by decide) (hts (.fieldLink RX2 16 "CompassBias" "image0" "LCompassBias$Samples;") (List.mem_of_getElem? (i := 8) rfl)) (fun _ h9 => h9) rfl hin rfl (by decide +kernel) rfl rfl (Nat.le_of_ble_eq_true rfl) dX2_init_23 (fun H locs hP hD hS => ?_)
  have hP : va_P D classes [(h0, .inr (2, [.ref q0, .ref q1, .null, .int 0, .null, .null])), (q0, .inr (1, [.ref x0, .ref y0, .int 0, .int 0, .int 5])), (x0, .inl (c0, 10, .inl (fun _ => 0))), (y0, .inl (c0, 10, .inl (fun _ => 0))), (q1, .inr (1, [.ref x1, .ref y1, .int 0, .int 0, .int 5])), (x1, .inl (c1, 10, .inl (fun _ => 0))), (y1, .inl (c1, 10, .inl (fun _ => 0)))] H := hP
  have hD : va_D A [(h0, .inr (2, [.ref q0, .ref q1, .null, .int 0, .null, .null])), (q0, .inr (1, [.ref x0, .ref y0, .int 0, .int 0, .int 5])), (x0, .inl (c0, 10, .inl (fun _ => 0))), (y0, .inl (c0, 10, .inl (fun _ => 0))), (q1, .inr (1, [.ref x1, .ref y1, .int 0, .int 0, .int 5])), (x1, .inl (c1, 10, .inl (fun _ => 0))), (y1, .inl (c1, 10, .inl (fun _ => 0)))] := hD
  refine lv_aload_n hx hb dX2_init_26 rfl (lv_at hl 0 rfl) ?_
  refine va_new (ci := 1) (fs := [.null, .null, .int 0, .int 0, .int 0]) (C := RX1) (T := TX1) (N := 5) hx hb hts iX2_init_X1 tyX1 tyX1_ok hown (hts (.classLink RX2 9 RX1) (List.mem_of_getElem? (i := 4) rfl)) (hts (.instantiable RX1 5) (List.mem_of_getElem? (i := 5) rfl)) (hts (.initialized RX1) (List.mem_of_getElem? (i := 6) rfl)) hK hP hD hS hA rfl (fun j hj => by rcases (show j = 0 ∨ j = 1 ∨ j = 2 ∨ j = 3 ∨ j = 4 by omega) with rfl | rfl | rfl | rfl | rfl <;> rfl) (Nat.le_of_ble_eq_true rfl) (Nat.le_of_ble_eq_true rfl) dX2_init_27 (fun q2 H hP hD hS => ?_)
  have hP : va_P D classes [(h0, .inr (2, [.ref q0, .ref q1, .null, .int 0, .null, .null])), (q0, .inr (1, [.ref x0, .ref y0, .int 0, .int 0, .int 5])), (x0, .inl (c0, 10, .inl (fun _ => 0))), (y0, .inl (c0, 10, .inl (fun _ => 0))), (q1, .inr (1, [.ref x1, .ref y1, .int 0, .int 0, .int 5])), (x1, .inl (c1, 10, .inl (fun _ => 0))), (y1, .inl (c1, 10, .inl (fun _ => 0))), (q2, .inr (1, [.null, .null, .int 0, .int 0, .int 0]))] H := hP
  have hD : va_D A [(h0, .inr (2, [.ref q0, .ref q1, .null, .int 0, .null, .null])), (q0, .inr (1, [.ref x0, .ref y0, .int 0, .int 0, .int 5])), (x0, .inl (c0, 10, .inl (fun _ => 0))), (y0, .inl (c0, 10, .inl (fun _ => 0))), (q1, .inr (1, [.ref x1, .ref y1, .int 0, .int 0, .int 5])), (x1, .inl (c1, 10, .inl (fun _ => 0))), (y1, .inl (c1, 10, .inl (fun _ => 0))), (q2, .inr (1, [.null, .null, .int 0, .int 0, .int 0]))] := hD
  refine W.widen (k := 7) (n := 55) (by omega) (by omega) ?_
  refine lv_dup hx hb dX2_init_30 rfl ?_
  have hPc := hP.sub (ws' := [(q2, .inr (1, [.null, .null, .int 0, .int 0, .int 0]))]) [7] rfl
  have hDc := hD.sub (ws' := [(q2, .inr (1, [.null, .null, .int 0, .int 0, .int 0]))]) [7] (by decide) rfl
  have hFc := va_free (wc := [(q2, .inr (1, [.null, .null, .int 0, .int 0, .int 0]))]) hD hS hA [7] rfl
  refine va_callv (va_runI (As := []) (rest := [.ref q2, .ref h0]) ⟨hx, hb, hml, hown, hts⟩ (c_X1_init l D q2 H.size) (cwI 0 hts gX2_init_X1_init rfl rfl rfl (hts (.initialized RX1) (List.mem_of_getElem? (i := 6) rfl)) (hts (.methodLink RX2 11 yX1_init) (List.mem_of_getElem? (i := 16) rfl)) (hts (.instanceMethod yX1_init) (List.mem_of_getElem? (i := 17) rfl)) rfl (by decide +kernel) ⟨Nat.le_of_ble_eq_true rfl, Nat.le_of_ble_eq_true rfl⟩) ⟨fun a U g mk q => ⟨q.1, q.2.1, q.2.2.1, va_K.moved (u := U) (U := U.calling g mk a) (Vm.Alike.refl U.vm) q.2.2.2.1, q.2.2.2.2⟩, fun U hU hW => ⟨rfl, by rw [hU], by rw [hU]; exact hPc, va_K.moved hW.alike hK0, trivial, hDc.weaken (fun _ _ _ _ => trivial)⟩⟩ rfl rfl hl.1 rfl (lv_room (Nat.le_of_ble_eq_true rfl)) dX2_init_31 ⟨Nat.le_of_ble_eq_true rfl, Nat.le_of_ble_eq_true rfl⟩) hS (fun q _ h => hFc q h) hFc (fun u t H1 locs ht hvm hw hB hz1 hk1 hS => ?_)
  obtain ⟨x2, y2, c2, hP1, hK1, hD1⟩ := hB
  rw [ht] at hP1
  have hKa2 := va_K.moved hvm.symm hK1
  obtain ⟨hP, hD⟩ := va_join (wr := [(h0, .inr (2, [.ref q0, .ref q1, .null, .int 0, .null, .null])), (q0, .inr (1, [.ref x0, .ref y0, .int 0, .int 0, .int 5])), (x0, .inl (c0, 10, .inl (fun _ => 0))), (y0, .inl (c0, 10, .inl (fun _ => 0))), (q1, .inr (1, [.ref x1, .ref y1, .int 0, .int 0, .int 5])), (x1, .inl (c1, 10, .inl (fun _ => 0))), (y1, .inl (c1, 10, .inl (fun _ => 0)))]) (w1 := [(q2, .inr (1, [.ref x2, .ref y2, .int 0, .int 0, .int 5])), (x2, .inl (c2, 10, .inl (fun _ => 0))), (y2, .inl (c2, 10, .inl (fun _ => 0)))]) hP hD [7] [0, 1, 2, 3, 4, 5, 6] rfl rfl (by decide) (by decide) hk1 hFc hP1 hD1
  generalize H1 = H at hP hS ⊢
  have hP : va_P D classes [(h0, .inr (2, [.ref q0, .ref q1, .null, .int 0, .null, .null])), (q0, .inr (1, [.ref x0, .ref y0, .int 0, .int 0, .int 5])), (x0, .inl (c0, 10, .inl (fun _ => 0))), (y0, .inl (c0, 10, .inl (fun _ => 0))), (q1, .inr (1, [.ref x1, .ref y1, .int 0, .int 0, .int 5])), (x1, .inl (c1, 10, .inl (fun _ => 0))), (y1, .inl (c1, 10, .inl (fun _ => 0))), (q2, .inr (1, [.ref x2, .ref y2, .int 0, .int 0, .int 5])), (x2, .inl (c2, 10, .inl (fun _ => 0))), (y2, .inl (c2, 10, .inl (fun _ => 0)))] H := hP
  have hD : va_D A [(h0, .inr (2, [.ref q0, .ref q1, .null, .int 0, .null, .null])), (q0, .inr (1, [.ref x0, .ref y0, .int 0, .int 0, .int 5])), (x0, .inl (c0, 10, .inl (fun _ => 0))), (y0, .inl (c0, 10, .inl (fun _ => 0))), (q1, .inr (1, [.ref x1, .ref y1, .int 0, .int 0, .int 5])), (x1, .inl (c1, 10, .inl (fun _ => 0))), (y1, .inl (c1, 10, .inl (fun _ => 0))), (q2, .inr (1, [.ref x2, .ref y2, .int 0, .int 0, .int 5])), (x2, .inl (c2, 10, .inl (fun _ => 0))), (y2, .inl (c2, 10, .inl (fun _ => 0)))] := hD
  refine W.widen (k := 9) (n := 75) (by omega) (by omega) ?_
  refine va_putF (D := D) (ci := 2) (v := .ref q2) (ty := .object "CompassBias$Samples") (C := RX2) (T := TX2) (N := 6) hx hb hts iX2_init_X2 tyX2 tyX2_ok nmX2 hown hK hP hD hS 0 rfl rfl 2 (by decide) (hts (.fieldLink RX2 19 "CompassBias" "image1" "LCompassBias$Samples;") (List.mem_of_getElem? (i := 9) rfl)) (fun _ h9 => h9) rfl hin rfl (by decide +kernel) rfl rfl (Nat.le_of_ble_eq_true rfl) dX2_init_34 (fun H locs hP hD hS => ?_)
  have hP : va_P D classes [(h0, .inr (2, [.ref q0, .ref q1, .ref q2, .int 0, .null, .null])), (q0, .inr (1, [.ref x0, .ref y0, .int 0, .int 0, .int 5])), (x0, .inl (c0, 10, .inl (fun _ => 0))), (y0, .inl (c0, 10, .inl (fun _ => 0))), (q1, .inr (1, [.ref x1, .ref y1, .int 0, .int 0, .int 5])), (x1, .inl (c1, 10, .inl (fun _ => 0))), (y1, .inl (c1, 10, .inl (fun _ => 0))), (q2, .inr (1, [.ref x2, .ref y2, .int 0, .int 0, .int 5])), (x2, .inl (c2, 10, .inl (fun _ => 0))), (y2, .inl (c2, 10, .inl (fun _ => 0)))] H := hP
  have hD : va_D A [(h0, .inr (2, [.ref q0, .ref q1, .ref q2, .int 0, .null, .null])), (q0, .inr (1, [.ref x0, .ref y0, .int 0, .int 0, .int 5])), (x0, .inl (c0, 10, .inl (fun _ => 0))), (y0, .inl (c0, 10, .inl (fun _ => 0))), (q1, .inr (1, [.ref x1, .ref y1, .int 0, .int 0, .int 5])), (x1, .inl (c1, 10, .inl (fun _ => 0))), (y1, .inl (c1, 10, .inl (fun _ => 0))), (q2, .inr (1, [.ref x2, .ref y2, .int 0, .int 0, .int 5])), (x2, .inl (c2, 10, .inl (fun _ => 0))), (y2, .inl (c2, 10, .inl (fun _ => 0)))] := hD
  refine lv_aload_n hx hb dX2_init_37 rfl (lv_at hl 0 rfl) ?_
  refine lv_iconst (v := 0) hx hb dX2_init_38 (by decide) ?_
  refine va_put (D := D) (ci := 2) (v := .int 0) (ty := .int) (C := RX2) (T := TX2) (N := 6) hx hb hts iX2_init_X2 tyX2 tyX2_ok nmX2 hown hK hP hD hS 0 rfl rfl 3 (by decide) (hts (.fieldLink RX2 22 "CompassBias" "keptImages" "I") (List.mem_of_getElem? (i := 10) rfl)) (fun _ h9 => h9) rfl (by decide +kernel) rfl rfl (Nat.le_of_ble_eq_true rfl) dX2_init_39 (fun H locs hP hD hS => ?_)
  have hP : va_P D classes [(h0, .inr (2, [.ref q0, .ref q1, .ref q2, .int 0, .null, .null])), (q0, .inr (1, [.ref x0, .ref y0, .int 0, .int 0, .int 5])), (x0, .inl (c0, 10, .inl (fun _ => 0))), (y0, .inl (c0, 10, .inl (fun _ => 0))), (q1, .inr (1, [.ref x1, .ref y1, .int 0, .int 0, .int 5])), (x1, .inl (c1, 10, .inl (fun _ => 0))), (y1, .inl (c1, 10, .inl (fun _ => 0))), (q2, .inr (1, [.ref x2, .ref y2, .int 0, .int 0, .int 5])), (x2, .inl (c2, 10, .inl (fun _ => 0))), (y2, .inl (c2, 10, .inl (fun _ => 0)))] H := hP
  have hD : va_D A [(h0, .inr (2, [.ref q0, .ref q1, .ref q2, .int 0, .null, .null])), (q0, .inr (1, [.ref x0, .ref y0, .int 0, .int 0, .int 5])), (x0, .inl (c0, 10, .inl (fun _ => 0))), (y0, .inl (c0, 10, .inl (fun _ => 0))), (q1, .inr (1, [.ref x1, .ref y1, .int 0, .int 0, .int 5])), (x1, .inl (c1, 10, .inl (fun _ => 0))), (y1, .inl (c1, 10, .inl (fun _ => 0))), (q2, .inr (1, [.ref x2, .ref y2, .int 0, .int 0, .int 5])), (x2, .inl (c2, 10, .inl (fun _ => 0))), (y2, .inl (c2, 10, .inl (fun _ => 0)))] := hD
  refine lv_aload_n hx hb dX2_init_42 rfl (lv_at hl 0 rfl) ?_
  refine va_new (ci := 0) (fs := [.long 0, .long 0, .long 0, .long 0, .long 0, .long 0, .long 0, .long 0, .long 0, .long 0, .long 0, .long 0, .long 0]) (C := RX0) (T := TX0) (N := 13) hx hb hts iX2_init_X0 tyX0 tyX0_ok hown (hts (.classLink RX2 26 RX0) (List.mem_of_getElem? (i := 11) rfl)) (hts (.instantiable RX0 13) (List.mem_of_getElem? (i := 12) rfl)) (hts (.initialized RX0) (List.mem_of_getElem? (i := 13) rfl)) hK hP hD hS hA rfl (fun j hj => by rcases (show j = 0 ∨ j = 1 ∨ j = 2 ∨ j = 3 ∨ j = 4 ∨ j = 5 ∨ j = 6 ∨ j = 7 ∨ j = 8 ∨ j = 9 ∨ j = 10 ∨ j = 11 ∨ j = 12 by omega) with rfl | rfl | rfl | rfl | rfl | rfl | rfl | rfl | rfl | rfl | rfl | rfl | rfl <;> rfl) (Nat.le_of_ble_eq_true rfl) (Nat.le_of_ble_eq_true rfl) dX2_init_43 (fun q3 H hP hD hS => ?_)
  have hP : va_P D classes [(h0, .inr (2, [.ref q0, .ref q1, .ref q2, .int 0, .null, .null])), (q0, .inr (1, [.ref x0, .ref y0, .int 0, .int 0, .int 5])), (x0, .inl (c0, 10, .inl (fun _ => 0))), (y0, .inl (c0, 10, .inl (fun _ => 0))), (q1, .inr (1, [.ref x1, .ref y1, .int 0, .int 0, .int 5])), (x1, .inl (c1, 10, .inl (fun _ => 0))), (y1, .inl (c1, 10, .inl (fun _ => 0))), (q2, .inr (1, [.ref x2, .ref y2, .int 0, .int 0, .int 5])), (x2, .inl (c2, 10, .inl (fun _ => 0))), (y2, .inl (c2, 10, .inl (fun _ => 0))), (q3, .inr (0, [.long 0, .long 0, .long 0, .long 0, .long 0, .long 0, .long 0, .long 0, .long 0, .long 0, .long 0, .long 0, .long 0]))] H := hP
  have hD : va_D A [(h0, .inr (2, [.ref q0, .ref q1, .ref q2, .int 0, .null, .null])), (q0, .inr (1, [.ref x0, .ref y0, .int 0, .int 0, .int 5])), (x0, .inl (c0, 10, .inl (fun _ => 0))), (y0, .inl (c0, 10, .inl (fun _ => 0))), (q1, .inr (1, [.ref x1, .ref y1, .int 0, .int 0, .int 5])), (x1, .inl (c1, 10, .inl (fun _ => 0))), (y1, .inl (c1, 10, .inl (fun _ => 0))), (q2, .inr (1, [.ref x2, .ref y2, .int 0, .int 0, .int 5])), (x2, .inl (c2, 10, .inl (fun _ => 0))), (y2, .inl (c2, 10, .inl (fun _ => 0))), (q3, .inr (0, [.long 0, .long 0, .long 0, .long 0, .long 0, .long 0, .long 0, .long 0, .long 0, .long 0, .long 0, .long 0, .long 0]))] := hD
  refine W.widen (k := 10) (n := 88) (by omega) (by omega) ?_
  have hP : va_P D classes [(h0, .inr (2, [.ref q0, .ref q1, .ref q2, .int 0, .null, .null])), (q0, .inr (1, [.ref x0, .ref y0, .int 0, .int 0, .int 5])), (x0, .inl (c0, 10, .inl (fun _ => 0))), (y0, .inl (c0, 10, .inl (fun _ => 0))), (q1, .inr (1, [.ref x1, .ref y1, .int 0, .int 0, .int 5])), (x1, .inl (c1, 10, .inl (fun _ => 0))), (y1, .inl (c1, 10, .inl (fun _ => 0))), (q2, .inr (1, [.ref x2, .ref y2, .int 0, .int 0, .int 5])), (x2, .inl (c2, 10, .inl (fun _ => 0))), (y2, .inl (c2, 10, .inl (fun _ => 0))), (q3, .inr (0, rdv (0, 0, 0, 0, 0, 0, 0, 0, 0, 0, 0, 0, 0)))] H := hP
  have hD : va_D A [(h0, .inr (2, [.ref q0, .ref q1, .ref q2, .int 0, .null, .null])), (q0, .inr (1, [.ref x0, .ref y0, .int 0, .int 0, .int 5])), (x0, .inl (c0, 10, .inl (fun _ => 0))), (y0, .inl (c0, 10, .inl (fun _ => 0))), (q1, .inr (1, [.ref x1, .ref y1, .int 0, .int 0, .int 5])), (x1, .inl (c1, 10, .inl (fun _ => 0))), (y1, .inl (c1, 10, .inl (fun _ => 0))), (q2, .inr (1, [.ref x2, .ref y2, .int 0, .int 0, .int 5])), (x2, .inl (c2, 10, .inl (fun _ => 0))), (y2, .inl (c2, 10, .inl (fun _ => 0))), (q3, .inr (0, rdv (0, 0, 0, 0, 0, 0, 0, 0, 0, 0, 0, 0, 0)))] := hD
  refine lv_dup hx hb dX2_init_46 rfl ?_
  have hPc := hP.sub (ws' := [(q3, .inr (0, rdv (0, 0, 0, 0, 0, 0, 0, 0, 0, 0, 0, 0, 0)))]) [10] rfl
  have hDc := hD.sub (ws' := [(q3, .inr (0, rdv (0, 0, 0, 0, 0, 0, 0, 0, 0, 0, 0, 0, 0)))]) [10] (by decide) rfl
  have hFc := va_free (wc := [(q3, .inr (0, rdv (0, 0, 0, 0, 0, 0, 0, 0, 0, 0, 0, 0, 0)))]) hD hS hA [10] rfl
  refine va_callv (va_runIN (As := []) (rest := [.ref q3, .ref h0]) ⟨hx, hb, hml, hown, hts⟩ (c_X0_init l D q3 (0, 0, 0, 0, 0, 0, 0, 0, 0, 0, 0, 0, 0) H.size) ⟨va_cnB 0 hts gX2_init_X0_init_n28 rfl rfl rfl hN (hts (.initialized RX0) (List.mem_of_getElem? (i := 13) rfl)) (by decide +kernel) ⟨Nat.le_of_ble_eq_true rfl, Nat.le_of_ble_eq_true rfl⟩, rfl, (hts (.instanceMethod yX0_init) (List.mem_of_getElem? (i := 26) rfl))⟩ ⟨fun a U g mk q => ⟨q.1, q.2.1, q.2.2.1, va_K.moved (u := U) (U := U.calling g mk a) (Vm.Alike.refl U.vm) q.2.2.2.1, q.2.2.2.2⟩, fun U hU hW => ⟨rfl, by rw [hU], by rw [hU]; exact hPc, va_K.moved hW.alike hK0, trivial, hDc.weaken (fun _ _ _ _ => trivial)⟩⟩ rfl rfl hl.1 rfl (lv_room (Nat.le_of_ble_eq_true rfl)) dX2_init_47 ⟨Nat.le_of_ble_eq_true rfl, Nat.le_of_ble_eq_true rfl⟩) hS (fun q _ h => hFc q h) hFc (fun u t H1 locs ht hvm hw hB hz1 hk1 hS => ?_)
  obtain ⟨hP1, hD1⟩ := hB
  rw [ht] at hP1
  obtain ⟨hP, hD⟩ := va_join (wr := [(h0, .inr (2, [.ref q0, .ref q1, .ref q2, .int 0, .null, .null])), (q0, .inr (1, [.ref x0, .ref y0, .int 0, .int 0, .int 5])), (x0, .inl (c0, 10, .inl (fun _ => 0))), (y0, .inl (c0, 10, .inl (fun _ => 0))), (q1, .inr (1, [.ref x1, .ref y1, .int 0, .int 0, .int 5])), (x1, .inl (c1, 10, .inl (fun _ => 0))), (y1, .inl (c1, 10, .inl (fun _ => 0))), (q2, .inr (1, [.ref x2, .ref y2, .int 0, .int 0, .int 5])), (x2, .inl (c2, 10, .inl (fun _ => 0))), (y2, .inl (c2, 10, .inl (fun _ => 0)))]) (w1 := [(q3, .inr (0, rdv (0, 0, 0, 0, 0, 0, 0, 0, 0, 0, 0, 0, 0)))]) hP hD [10] [0, 1, 2, 3, 4, 5, 6, 7, 8, 9] rfl rfl (by decide) (by decide) hk1 hFc hP1 hD1
  generalize H1 = H at hP hS ⊢
  have hP : va_P D classes [(h0, .inr (2, [.ref q0, .ref q1, .ref q2, .int 0, .null, .null])), (q0, .inr (1, [.ref x0, .ref y0, .int 0, .int 0, .int 5])), (x0, .inl (c0, 10, .inl (fun _ => 0))), (y0, .inl (c0, 10, .inl (fun _ => 0))), (q1, .inr (1, [.ref x1, .ref y1, .int 0, .int 0, .int 5])), (x1, .inl (c1, 10, .inl (fun _ => 0))), (y1, .inl (c1, 10, .inl (fun _ => 0))), (q2, .inr (1, [.ref x2, .ref y2, .int 0, .int 0, .int 5])), (x2, .inl (c2, 10, .inl (fun _ => 0))), (y2, .inl (c2, 10, .inl (fun _ => 0))), (q3, .inr (0, rdv (0, 0, 0, 0, 0, 0, 0, 0, 0, 0, 0, 0, 0)))] H := hP
  have hD : va_D A [(h0, .inr (2, [.ref q0, .ref q1, .ref q2, .int 0, .null, .null])), (q0, .inr (1, [.ref x0, .ref y0, .int 0, .int 0, .int 5])), (x0, .inl (c0, 10, .inl (fun _ => 0))), (y0, .inl (c0, 10, .inl (fun _ => 0))), (q1, .inr (1, [.ref x1, .ref y1, .int 0, .int 0, .int 5])), (x1, .inl (c1, 10, .inl (fun _ => 0))), (y1, .inl (c1, 10, .inl (fun _ => 0))), (q2, .inr (1, [.ref x2, .ref y2, .int 0, .int 0, .int 5])), (x2, .inl (c2, 10, .inl (fun _ => 0))), (y2, .inl (c2, 10, .inl (fun _ => 0))), (q3, .inr (0, rdv (0, 0, 0, 0, 0, 0, 0, 0, 0, 0, 0, 0, 0)))] := hD
  refine W.widen (k := 10) (n := 88) (by omega) (by omega) ?_
  refine va_putF (D := D) (ci := 2) (v := .ref q3) (ty := .object "CompassBias$Round") (C := RX2) (T := TX2) (N := 6) hx hb hts iX2_init_X2 tyX2 tyX2_ok nmX2 hown hK hP hD hS 0 rfl rfl 4 (by decide) (hts (.fieldLink RX2 29 "CompassBias" "theRound" "LCompassBias$Round;") (List.mem_of_getElem? (i := 14) rfl)) (fun _ h9 => h9) rfl hin rfl (by decide +kernel) rfl rfl (Nat.le_of_ble_eq_true rfl) dX2_init_50 (fun H locs hP hD hS => ?_)
  have hP : va_P D classes [(h0, .inr (2, [.ref q0, .ref q1, .ref q2, .int 0, .ref q3, .null])), (q0, .inr (1, [.ref x0, .ref y0, .int 0, .int 0, .int 5])), (x0, .inl (c0, 10, .inl (fun _ => 0))), (y0, .inl (c0, 10, .inl (fun _ => 0))), (q1, .inr (1, [.ref x1, .ref y1, .int 0, .int 0, .int 5])), (x1, .inl (c1, 10, .inl (fun _ => 0))), (y1, .inl (c1, 10, .inl (fun _ => 0))), (q2, .inr (1, [.ref x2, .ref y2, .int 0, .int 0, .int 5])), (x2, .inl (c2, 10, .inl (fun _ => 0))), (y2, .inl (c2, 10, .inl (fun _ => 0))), (q3, .inr (0, rdv (0, 0, 0, 0, 0, 0, 0, 0, 0, 0, 0, 0, 0)))] H := hP
  have hD : va_D A [(h0, .inr (2, [.ref q0, .ref q1, .ref q2, .int 0, .ref q3, .null])), (q0, .inr (1, [.ref x0, .ref y0, .int 0, .int 0, .int 5])), (x0, .inl (c0, 10, .inl (fun _ => 0))), (y0, .inl (c0, 10, .inl (fun _ => 0))), (q1, .inr (1, [.ref x1, .ref y1, .int 0, .int 0, .int 5])), (x1, .inl (c1, 10, .inl (fun _ => 0))), (y1, .inl (c1, 10, .inl (fun _ => 0))), (q2, .inr (1, [.ref x2, .ref y2, .int 0, .int 0, .int 5])), (x2, .inl (c2, 10, .inl (fun _ => 0))), (y2, .inl (c2, 10, .inl (fun _ => 0))), (q3, .inr (0, rdv (0, 0, 0, 0, 0, 0, 0, 0, 0, 0, 0, 0, 0)))] := hD
  refine lv_aload_n hx hb dX2_init_53 rfl (lv_at hl 0 rfl) ?_
  refine va_new (ci := 0) (fs := [.long 0, .long 0, .long 0, .long 0, .long 0, .long 0, .long 0, .long 0, .long 0, .long 0, .long 0, .long 0, .long 0]) (C := RX0) (T := TX0) (N := 13) hx hb hts iX2_init_X0 tyX0 tyX0_ok hown (hts (.classLink RX2 26 RX0) (List.mem_of_getElem? (i := 11) rfl)) (hts (.instantiable RX0 13) (List.mem_of_getElem? (i := 12) rfl)) (hts (.initialized RX0) (List.mem_of_getElem? (i := 13) rfl)) hK hP hD hS hA rfl (fun j hj => by rcases (show j = 0 ∨ j = 1 ∨ j = 2 ∨ j = 3 ∨ j = 4 ∨ j = 5 ∨ j = 6 ∨ j = 7 ∨ j = 8 ∨ j = 9 ∨ j = 10 ∨ j = 11 ∨ j = 12 by omega) with rfl | rfl | rfl | rfl | rfl | rfl | rfl | rfl | rfl | rfl | rfl | rfl | rfl <;> rfl) (Nat.le_of_ble_eq_true rfl) (Nat.le_of_ble_eq_true rfl) dX2_init_54 (fun q4 H hP hD hS => ?_)
  have hP : va_P D classes [(h0, .inr (2, [.ref q0, .ref q1, .ref q2, .int 0, .ref q3, .null])), (q0, .inr (1, [.ref x0, .ref y0, .int 0, .int 0, .int 5])), (x0, .inl (c0, 10, .inl (fun _ => 0))), (y0, .inl (c0, 10, .inl (fun _ => 0))), (q1, .inr (1, [.ref x1, .ref y1, .int 0, .int 0, .int 5])), (x1, .inl (c1, 10, .inl (fun _ => 0))), (y1, .inl (c1, 10, .inl (fun _ => 0))), (q2, .inr (1, [.ref x2, .ref y2, .int 0, .int 0, .int 5])), (x2, .inl (c2, 10, .inl (fun _ => 0))), (y2, .inl (c2, 10, .inl (fun _ => 0))), (q3, .inr (0, rdv (0, 0, 0, 0, 0, 0, 0, 0, 0, 0, 0, 0, 0))), (q4, .inr (0, [.long 0, .long 0, .long 0, .long 0, .long 0, .long 0, .long 0, .long 0, .long 0, .long 0, .long 0, .long 0, .long 0]))] H := hP
  have hD : va_D A [(h0, .inr (2, [.ref q0, .ref q1, .ref q2, .int 0, .ref q3, .null])), (q0, .inr (1, [.ref x0, .ref y0, .int 0, .int 0, .int 5])), (x0, .inl (c0, 10, .inl (fun _ => 0))), (y0, .inl (c0, 10, .inl (fun _ => 0))), (q1, .inr (1, [.ref x1, .ref y1, .int 0, .int 0, .int 5])), (x1, .inl (c1, 10, .inl (fun _ => 0))), (y1, .inl (c1, 10, .inl (fun _ => 0))), (q2, .inr (1, [.ref x2, .ref y2, .int 0, .int 0, .int 5])), (x2, .inl (c2, 10, .inl (fun _ => 0))), (y2, .inl (c2, 10, .inl (fun _ => 0))), (q3, .inr (0, rdv (0, 0, 0, 0, 0, 0, 0, 0, 0, 0, 0, 0, 0))), (q4, .inr (0, [.long 0, .long 0, .long 0, .long 0, .long 0, .long 0, .long 0, .long 0, .long 0, .long 0, .long 0, .long 0, .long 0]))] := hD
  refine W.widen (k := 11) (n := 101) (by omega) (by omega) ?_
  have hP : va_P D classes [(h0, .inr (2, [.ref q0, .ref q1, .ref q2, .int 0, .ref q3, .null])), (q0, .inr (1, [.ref x0, .ref y0, .int 0, .int 0, .int 5])), (x0, .inl (c0, 10, .inl (fun _ => 0))), (y0, .inl (c0, 10, .inl (fun _ => 0))), (q1, .inr (1, [.ref x1, .ref y1, .int 0, .int 0, .int 5])), (x1, .inl (c1, 10, .inl (fun _ => 0))), (y1, .inl (c1, 10, .inl (fun _ => 0))), (q2, .inr (1, [.ref x2, .ref y2, .int 0, .int 0, .int 5])), (x2, .inl (c2, 10, .inl (fun _ => 0))), (y2, .inl (c2, 10, .inl (fun _ => 0))), (q3, .inr (0, rdv (0, 0, 0, 0, 0, 0, 0, 0, 0, 0, 0, 0, 0))), (q4, .inr (0, rdv (0, 0, 0, 0, 0, 0, 0, 0, 0, 0, 0, 0, 0)))] H := hP
  have hD : va_D A [(h0, .inr (2, [.ref q0, .ref q1, .ref q2, .int 0, .ref q3, .null])), (q0, .inr (1, [.ref x0, .ref y0, .int 0, .int 0, .int 5])), (x0, .inl (c0, 10, .inl (fun _ => 0))), (y0, .inl (c0, 10, .inl (fun _ => 0))), (q1, .inr (1, [.ref x1, .ref y1, .int 0, .int 0, .int 5])), (x1, .inl (c1, 10, .inl (fun _ => 0))), (y1, .inl (c1, 10, .inl (fun _ => 0))), (q2, .inr (1, [.ref x2, .ref y2, .int 0, .int 0, .int 5])), (x2, .inl (c2, 10, .inl (fun _ => 0))), (y2, .inl (c2, 10, .inl (fun _ => 0))), (q3, .inr (0, rdv (0, 0, 0, 0, 0, 0, 0, 0, 0, 0, 0, 0, 0))), (q4, .inr (0, rdv (0, 0, 0, 0, 0, 0, 0, 0, 0, 0, 0, 0, 0)))] := hD
  refine lv_dup hx hb dX2_init_57 rfl ?_
  have hPc := hP.sub (ws' := [(q4, .inr (0, rdv (0, 0, 0, 0, 0, 0, 0, 0, 0, 0, 0, 0, 0)))]) [11] rfl
  have hDc := hD.sub (ws' := [(q4, .inr (0, rdv (0, 0, 0, 0, 0, 0, 0, 0, 0, 0, 0, 0, 0)))]) [11] (by decide) rfl
  have hFc := va_free (wc := [(q4, .inr (0, rdv (0, 0, 0, 0, 0, 0, 0, 0, 0, 0, 0, 0, 0)))]) hD hS hA [11] rfl
  refine va_callv (va_runIN (As := []) (rest := [.ref q4, .ref h0]) ⟨hx, hb, hml, hown, hts⟩ (c_X0_init l D q4 (0, 0, 0, 0, 0, 0, 0, 0, 0, 0, 0, 0, 0) H.size) ⟨va_cnB 0 hts gX2_init_X0_init_n28 rfl rfl rfl hN (hts (.initialized RX0) (List.mem_of_getElem? (i := 13) rfl)) (by decide +kernel) ⟨Nat.le_of_ble_eq_true rfl, Nat.le_of_ble_eq_true rfl⟩, rfl, (hts (.instanceMethod yX0_init) (List.mem_of_getElem? (i := 26) rfl))⟩ ⟨fun a U g mk q => ⟨q.1, q.2.1, q.2.2.1, va_K.moved (u := U) (U := U.calling g mk a) (Vm.Alike.refl U.vm) q.2.2.2.1, q.2.2.2.2⟩, fun U hU hW => ⟨rfl, by rw [hU], by rw [hU]; exact hPc, va_K.moved hW.alike hK0, trivial, hDc.weaken (fun _ _ _ _ => trivial)⟩⟩ rfl rfl hl.1 rfl (lv_room (Nat.le_of_ble_eq_true rfl)) dX2_init_58 ⟨Nat.le_of_ble_eq_true rfl, Nat.le_of_ble_eq_true rfl⟩) hS (fun q _ h => hFc q h) hFc (fun u t H1 locs ht hvm hw hB hz1 hk1 hS => ?_)
  obtain ⟨hP1, hD1⟩ := hB
  rw [ht] at hP1
  obtain ⟨hP, hD⟩ := va_join (wr := [(h0, .inr (2, [.ref q0, .ref q1, .ref q2, .int 0, .ref q3, .null])), (q0, .inr (1, [.ref x0, .ref y0, .int 0, .int 0, .int 5])), (x0, .inl (c0, 10, .inl (fun _ => 0))), (y0, .inl (c0, 10, .inl (fun _ => 0))), (q1, .inr (1, [.ref x1, .ref y1, .int 0, .int 0, .int 5])), (x1, .inl (c1, 10, .inl (fun _ => 0))), (y1, .inl (c1, 10, .inl (fun _ => 0))), (q2, .inr (1, [.ref x2, .ref y2, .int 0, .int 0, .int 5])), (x2, .inl (c2, 10, .inl (fun _ => 0))), (y2, .inl (c2, 10, .inl (fun _ => 0))), (q3, .inr (0, rdv (0, 0, 0, 0, 0, 0, 0, 0, 0, 0, 0, 0, 0)))]) (w1 := [(q4, .inr (0, rdv (0, 0, 0, 0, 0, 0, 0, 0, 0, 0, 0, 0, 0)))]) hP hD [11] [0, 1, 2, 3, 4, 5, 6, 7, 8, 9, 10] rfl rfl (by decide) (by decide) hk1 hFc hP1 hD1
  generalize H1 = H at hP hS ⊢
  have hP : va_P D classes [(h0, .inr (2, [.ref q0, .ref q1, .ref q2, .int 0, .ref q3, .null])), (q0, .inr (1, [.ref x0, .ref y0, .int 0, .int 0, .int 5])), (x0, .inl (c0, 10, .inl (fun _ => 0))), (y0, .inl (c0, 10, .inl (fun _ => 0))), (q1, .inr (1, [.ref x1, .ref y1, .int 0, .int 0, .int 5])), (x1, .inl (c1, 10, .inl (fun _ => 0))), (y1, .inl (c1, 10, .inl (fun _ => 0))), (q2, .inr (1, [.ref x2, .ref y2, .int 0, .int 0, .int 5])), (x2, .inl (c2, 10, .inl (fun _ => 0))), (y2, .inl (c2, 10, .inl (fun _ => 0))), (q3, .inr (0, rdv (0, 0, 0, 0, 0, 0, 0, 0, 0, 0, 0, 0, 0))), (q4, .inr (0, rdv (0, 0, 0, 0, 0, 0, 0, 0, 0, 0, 0, 0, 0)))] H := hP
  have hD : va_D A [(h0, .inr (2, [.ref q0, .ref q1, .ref q2, .int 0, .ref q3, .null])), (q0, .inr (1, [.ref x0, .ref y0, .int 0, .int 0, .int 5])), (x0, .inl (c0, 10, .inl (fun _ => 0))), (y0, .inl (c0, 10, .inl (fun _ => 0))), (q1, .inr (1, [.ref x1, .ref y1, .int 0, .int 0, .int 5])), (x1, .inl (c1, 10, .inl (fun _ => 0))), (y1, .inl (c1, 10, .inl (fun _ => 0))), (q2, .inr (1, [.ref x2, .ref y2, .int 0, .int 0, .int 5])), (x2, .inl (c2, 10, .inl (fun _ => 0))), (y2, .inl (c2, 10, .inl (fun _ => 0))), (q3, .inr (0, rdv (0, 0, 0, 0, 0, 0, 0, 0, 0, 0, 0, 0, 0))), (q4, .inr (0, rdv (0, 0, 0, 0, 0, 0, 0, 0, 0, 0, 0, 0, 0)))] := hD
  refine W.widen (k := 11) (n := 101) (by omega) (by omega) ?_
  refine va_putF (D := D) (ci := 2) (v := .ref q4) (ty := .object "CompassBias$Round") (C := RX2) (T := TX2) (N := 6) hx hb hts iX2_init_X2 tyX2 tyX2_ok nmX2 hown hK hP hD hS 0 rfl rfl 5 (by decide) (hts (.fieldLink RX2 33 "CompassBias" "trial" "LCompassBias$Round;") (List.mem_of_getElem? (i := 15) rfl)) (fun _ h9 => h9) rfl hin rfl (by decide +kernel) rfl rfl (Nat.le_of_ble_eq_true rfl) dX2_init_61 (fun H locs hP hD hS => ?_)
  have hP : va_P D classes [(h0, .inr (2, [.ref q0, .ref q1, .ref q2, .int 0, .ref q3, .ref q4])), (q0, .inr (1, [.ref x0, .ref y0, .int 0, .int 0, .int 5])), (x0, .inl (c0, 10, .inl (fun _ => 0))), (y0, .inl (c0, 10, .inl (fun _ => 0))), (q1, .inr (1, [.ref x1, .ref y1, .int 0, .int 0, .int 5])), (x1, .inl (c1, 10, .inl (fun _ => 0))), (y1, .inl (c1, 10, .inl (fun _ => 0))), (q2, .inr (1, [.ref x2, .ref y2, .int 0, .int 0, .int 5])), (x2, .inl (c2, 10, .inl (fun _ => 0))), (y2, .inl (c2, 10, .inl (fun _ => 0))), (q3, .inr (0, rdv (0, 0, 0, 0, 0, 0, 0, 0, 0, 0, 0, 0, 0))), (q4, .inr (0, rdv (0, 0, 0, 0, 0, 0, 0, 0, 0, 0, 0, 0, 0)))] H := hP
  have hD : va_D A [(h0, .inr (2, [.ref q0, .ref q1, .ref q2, .int 0, .ref q3, .ref q4])), (q0, .inr (1, [.ref x0, .ref y0, .int 0, .int 0, .int 5])), (x0, .inl (c0, 10, .inl (fun _ => 0))), (y0, .inl (c0, 10, .inl (fun _ => 0))), (q1, .inr (1, [.ref x1, .ref y1, .int 0, .int 0, .int 5])), (x1, .inl (c1, 10, .inl (fun _ => 0))), (y1, .inl (c1, 10, .inl (fun _ => 0))), (q2, .inr (1, [.ref x2, .ref y2, .int 0, .int 0, .int 5])), (x2, .inl (c2, 10, .inl (fun _ => 0))), (y2, .inl (c2, 10, .inl (fun _ => 0))), (q3, .inr (0, rdv (0, 0, 0, 0, 0, 0, 0, 0, 0, 0, 0, 0, 0))), (q4, .inr (0, rdv (0, 0, 0, 0, 0, 0, 0, 0, 0, 0, 0, 0, 0)))] := hD
  obtain rfl := ci_uniq (fun C h => by cases h) hKa0 hKa1
  obtain rfl := ci_uniq (fun C h => by cases h) hKa0 hKa2
  have hP := hP.sub (ws' := [(h0, .inr (2, [.ref q0, .ref q1, .ref q2, .int 0, .ref q3, .ref q4])), (q0, .inr (1, [.ref x0, .ref y0, .int 0, .int 0, .int 5])), (x0, .inl (c0, 10, .inl (fun _ => 0))), (y0, .inl (c0, 10, .inl (fun _ => 0))), (q1, .inr (1, [.ref x1, .ref y1, .int 0, .int 0, .int 5])), (x1, .inl (c0, 10, .inl (fun _ => 0))), (y1, .inl (c0, 10, .inl (fun _ => 0))), (q2, .inr (1, [.ref x2, .ref y2, .int 0, .int 0, .int 5])), (x2, .inl (c0, 10, .inl (fun _ => 0))), (y2, .inl (c0, 10, .inl (fun _ => 0))), (q3, .inr (0, rdv (0, 0, 0, 0, 0, 0, 0, 0, 0, 0, 0, 0, 0))), (q4, .inr (0, rdv (0, 0, 0, 0, 0, 0, 0, 0, 0, 0, 0, 0, 0)))]) [0, 1, 2, 3, 4, 5, 6, 7, 8, 9, 10, 11] rfl
  have hD := hD.sub (ws' := [(h0, .inr (2, [.ref q0, .ref q1, .ref q2, .int 0, .ref q3, .ref q4])), (q0, .inr (1, [.ref x0, .ref y0, .int 0, .int 0, .int 5])), (x0, .inl (c0, 10, .inl (fun _ => 0))), (y0, .inl (c0, 10, .inl (fun _ => 0))), (q1, .inr (1, [.ref x1, .ref y1, .int 0, .int 0, .int 5])), (x1, .inl (c0, 10, .inl (fun _ => 0))), (y1, .inl (c0, 10, .inl (fun _ => 0))), (q2, .inr (1, [.ref x2, .ref y2, .int 0, .int 0, .int 5])), (x2, .inl (c0, 10, .inl (fun _ => 0))), (y2, .inl (c0, 10, .inl (fun _ => 0))), (q3, .inr (0, rdv (0, 0, 0, 0, 0, 0, 0, 0, 0, 0, 0, 0, 0))), (q4, .inr (0, rdv (0, 0, 0, 0, 0, 0, 0, 0, 0, 0, 0, 0, 0)))]) [0, 1, 2, 3, 4, 5, 6, 7, 8, 9, 10, 11] (by decide) rfl
  exact W.vret hx hb hr (fun t ht hW => ⟨⟨(), rfl, trivial, q0, x0, y0, q1, x1, y1, q2, x2, y2, q3, q4, c0, by rw [ht]; exact hP, va_K.moved hW.alike hKa0, hD⟩, hS.F ht⟩) hS.2.2 dX2_init_64
