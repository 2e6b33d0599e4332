/-! the worlds of this claim: classes, what objects hold, the uniform contract -/
abbrev classes : List vw_C := [(RX0, TX0, 13), (RX1, TX1, 5), (RX2, TX2, 6), (RX3, TX3, 16)]
abbrev Rd : Type := Int64 × Int64 × Int64 × Int64 × Int64 × Int64 × Int64 × Int64 × Int64 × Int64 × Int64 × Int64 × Int64
abbrev Sm : Type := (Nat → Int32) × (Nat → Int32) × Int32 × Int32 × Int32
def rdv (r : Rd) : List Value := [.long r.1, .long r.2.1, .long r.2.2.1, .long r.2.2.2.1, .long r.2.2.2.2.1, .long r.2.2.2.2.2.1, .long r.2.2.2.2.2.2.1, .long r.2.2.2.2.2.2.2.1, .long r.2.2.2.2.2.2.2.2.1, .long r.2.2.2.2.2.2.2.2.2.1, .long r.2.2.2.2.2.2.2.2.2.2.1, .long r.2.2.2.2.2.2.2.2.2.2.2.1, .long r.2.2.2.2.2.2.2.2.2.2.2.2]
def mdv (a b c : Nat) (r : Rd) : List Value := [.ref a, .ref b, .ref c, .long r.1, .long r.2.1, .long r.2.2.1, .long r.2.2.2.1, .long r.2.2.2.2.1, .long r.2.2.2.2.2.1, .long r.2.2.2.2.2.2.1, .long r.2.2.2.2.2.2.2.1, .long r.2.2.2.2.2.2.2.2.1, .long r.2.2.2.2.2.2.2.2.2.1, .long r.2.2.2.2.2.2.2.2.2.2.1, .long r.2.2.2.2.2.2.2.2.2.2.2.1, .long r.2.2.2.2.2.2.2.2.2.2.2.2]
def nwW : Cond := .methodLinkNest RX0 39 yX2_powerAt RX2
def KK (D : va_G) (cI cZ : ClassId) (U : State) : Prop := va_K D classes [(cI, .int), (cZ, .boolean)] U ∧ va_Nw nwW U
theorem KK.calling {D : va_G} {cI cZ : ClassId} {U : State} {g : JFrame} {mk : MethodId} {a : Array Value} (h : KK D cI cZ U) : KK D cI cZ (U.calling g mk a) := ⟨va_K.moved (u := U) (U := U.calling g mk a) (Vm.Alike.refl U.vm) h.1, va_Nw.same (u := U) (U := U.calling g mk a) rfl rfl h.2⟩
theorem KK.warm {D : va_G} {cI cZ : ClassId} {s U : State} (hW : s.WarmedH U.vm) (h : KK D cI cZ s) : KK D cI cZ U := ⟨va_K.moved hW.alike h.1, va_Nw.warmM hW h.2⟩
def CX (p : Program) (s : State) (m : MethodId) (args : Array Value) (meth : Method) (c : Code) (cc : ByteArray) (maxL : Nat) (ret : Option FieldType) (ws : List Cond) (own : String) : Prop := p.tables.exec = Jvm.exec ∧ c.code = cc ∧ c.maxLocals = maxL ∧ s.vm.findClass own = some m.cls ∧ (∀ w ∈ ws, w.before args s = true) ∧ meth.sig.returnType = ret ∧ meth.locks = false
def PreC (D : va_G) (cI cZ : ClassId) (av : List Value) (wc : va_W) (sz : Nat) : Array Value → State → Prop := va_Pc av (fun U => U.heap.size = sz ∧ va_P D classes wc U.heap ∧ KK D cI cZ U ∧ va_D (fun _ => True) wc)
def PoB {S : Type} (D : va_G) (A : Nat → Prop) (wu : S → va_W) : S → State → Prop := fun u t => va_P D classes (wu u) t.heap ∧ va_D A (wu u)
def CTi (l : Launch) (y : MethodName) (ws : List Cond) (rm : Room) (D : va_G) (cI cZ : ClassId) (av : List Value) (wc : va_W) {S : Type} (post : Int32 → S → Prop) (wu : S → va_W) : Prop := ∀ sz : Nat, Met l y ws rm (PreC D cI cZ av wc sz) (va_Qi post (PoB D (va_A wc sz) wu) (va_A wc sz)) 0 0 (va_A wc sz)
def CTl (l : Launch) (y : MethodName) (ws : List Cond) (rm : Room) (D : va_G) (cI cZ : ClassId) (av : List Value) (wc : va_W) {S : Type} (post : Int64 → S → Prop) (wu : S → va_W) : Prop := ∀ sz : Nat, Met l y ws rm (PreC D cI cZ av wc sz) (va_Ql post (PoB D (va_A wc sz) wu) (va_A wc sz)) 0 0 (va_A wc sz)
def CTv (l : Launch) (y : MethodName) (ws : List Cond) (rm : Room) (D : va_G) (cI cZ : ClassId) (av : List Value) (wc : va_W) {S : Type} (post : S → Prop) (wu : S → va_W) : Prop := ∀ sz : Nat, Met l y ws rm (PreC D cI cZ av wc sz) (va_Qv post (PoB D (va_A wc sz) wu) (va_A wc sz)) 0 0 (va_A wc sz)
/-- a method's entry: any end Qc -/
theorem enterM {l : Launch} {y : MethodName} {ws ws' : List Cond} {rm : Room} {D : va_G} {cI cZ : ClassId} {av : List Value} {wc : va_W} {cc : ByteArray} {maxL : Nat} {ret : Option FieldType} {own : String} {Qc : (Nat → Prop) → Array Value → State → Outcome → State → Prop} (hy : plainName y.cls = true) (hw : ws = Cond.code y cc maxL ret :: ws') (ho : y.cls = own) (hlen : (lg_sl av).length ≤ maxL)
    (body : ∀ (p : Program) (e : Env) (s : State) (m : MethodId) (below : List Frame) (meth : Method) (c : Code) (A : Nat → Prop) (ls : Array Slot), CX p s m av.toArray meth c cc maxL ret ws own → KK D cI cZ s → (∀ q, s.heap.size ≤ q → A q) → va_P D classes wc s.heap → va_D A wc → va_S A s.heap s.heap [] → lv_has ls maxL (lv_args 0 av) → W p l e rm s m av.toArray below meth c s.heap [] 0 0 (MQ below (Qc A) av.toArray s 0 0 A) (F0 m 0 ls [])) (sz : Nat) :
    Met l y ws rm (PreC D cI cZ av wc sz) (Qc (va_A wc sz)) 0 0 (va_A wc sz) := by
  refine Met.ofW (cc := cc) (maxL := maxL) (ret := ret) hy hw ?_
  intro p e s m args below meth c s₁ B hml hv
  obtain ⟨rfl, hsz, hP, hK, hD0⟩ := hv
  subst hsz
  rw [lg_entry_eq]
  exact body p e s m below meth c (va_A wc s.heap.size) _ ⟨B.exec, B.bytes, hml, by rw [← ho]; exact findClass_of_methodNamed B.named, atoms_spec (ws := ws) B.pre, B.returns, B.notSynchronized⟩ hK (fun q h => Or.inr h) hP hD0.self va_S.rf (lv_entry av hlen)
section RET
variable {p : Program} {l : Launch} {e : Env} {R : Room} {s : State} {m : MethodId} {args : Array Value} {below : List Frame} {meth : Method} {c : Code} {H : Heap} {locs : List Loc} {cc : ByteArray} {maxL : Nat} {ws : List Cond} {own : String} {D : va_G} {A : Nat → Prop} {S : Type} {wu : S → va_W} {pc : Nat} {ls : Array Slot}
theorem ret_i {post : Int32 → S → Prop} {v : Int32} (C : CX p s m args meth c cc maxL (some .int) ws own) (u : S) (hp : post v u) (hP : va_P D classes (wu u) H) (hD : va_D A (wu u)) (hS : va_S A s.heap H locs) (hdg : decode cc pc = .ok (.ireturn, 1)) : W p l e R s m args below meth c H locs 0 0 (MQ below (va_Qi post (PoB D A wu) A) args s 0 0 A) (F0 m pc ls [.int v]) :=
  W.iret (v := v) C.1 C.2.1 C.2.2.2.2.2.1 (fun t ht _ => ⟨⟨v, u, rfl, hp, by rw [ht]; exact hP, hD⟩, hS.F ht⟩) hS.2.2 hdg (hlocks := C.2.2.2.2.2.2)
theorem ret_z {post : Int32 → S → Prop} {v : Int32} (C : CX p s m args meth c cc maxL (some .boolean) ws own) (hn : v = 0 ∨ v = 1) (u : S) (hp : post v u) (hP : va_P D classes (wu u) H) (hD : va_D A (wu u)) (hS : va_S A s.heap H locs) (hdg : decode cc pc = .ok (.ireturn, 1)) : W p l e R s m args below meth c H locs 0 0 (MQ below (va_Qi post (PoB D A wu) A) args s 0 0 A) (F0 m pc ls [.int v]) :=
  W.zret (v := v) C.1 C.2.1 C.2.2.2.2.2.1 (by rcases hn with h | h <;> subst h <;> rfl) (fun t ht _ => ⟨⟨v, u, rfl, hp, by rw [ht]; exact hP, hD⟩, hS.F ht⟩) hS.2.2 hdg (hlocks := C.2.2.2.2.2.2)
theorem ret_l {post : Int64 → S → Prop} {v : Int64} (C : CX p s m args meth c cc maxL (some .long) ws own) (u : S) (hp : post v u) (hP : va_P D classes (wu u) H) (hD : va_D A (wu u)) (hS : va_S A s.heap H locs) (hdg : decode cc pc = .ok (.lreturn, 1)) : W p l e R s m args below meth c H locs 0 0 (MQ below (va_Ql post (PoB D A wu) A) args s 0 0 A) (F0 m pc ls [.long v]) :=
  W.lret (v := v) C.1 C.2.1 C.2.2.2.2.2.1 (fun t ht _ => ⟨⟨v, u, rfl, hp, by rw [ht]; exact hP, hD⟩, hS.F ht⟩) hS.2.2 hdg (hlocks := C.2.2.2.2.2.2)
theorem ret_v {post : S → Prop} (C : CX p s m args meth c cc maxL none ws own) (u : S) (hp : post u) (hP : va_P D classes (wu u) H) (hD : va_D A (wu u)) (hS : va_S A s.heap H locs) (hdg : decode cc pc = .ok (.return_, 1)) : W p l e R s m args below meth c H locs 0 0 (MQ below (va_Qv post (PoB D A wu) A) args s 0 0 A) (F0 m pc ls []) :=
  W.vret C.1 C.2.1 C.2.2.2.2.2.1 (fun t ht _ => ⟨⟨u, rfl, hp, by rw [ht]; exact hP, hD⟩, hS.F ht⟩) hS.2.2 hdg (hlocks := C.2.2.2.2.2.2)
end RET
section CALLS
variable {p : Program} {l : Launch} {e : Env} {R : Room} {s : State} {m : MethodId} {args : Array Value} {below : List Frame} {meth : Method} {c : Code} {H : Heap} {locs : List Loc} {cells slots : Nat} {Q : State → Prop} {cc bytes : ByteArray} {nL maxL n index pc : Nat} {ret ret' : Option FieldType} {Ts ws : List Cond} {own Cn : String} {D : va_G} {cI cZ : ClassId} {A A0 : Nat → Prop} {y : MethodName} {rm : Room} {b : Addr} {As rest st0 : List Value} {wc : va_W} {ls : Array Slot} {Qc : Nat → Array Value → State → Outcome → State → Prop} {fr : Nat → Addr → Prop} {H0 : Heap}
theorem run_V (C : CX p s m args meth c cc nL ret Ts own) (hM : ∀ sz : Nat, Met l y ws rm (PreC D cI cZ (.ref b :: As) wc sz) (Qc sz) 0 0 (fr sz)) (cw : CallW R s args own Cn index y bytes maxL ret' ws rm 0 0 n) (hK : KK D cI cZ s) (hPc : va_P D classes wc H) (hDc : va_D A wc) (q0 ci : Nat) {qc : vw_C} {fs : List Value} (hc : classes[ci]? = some qc) (hcn : qc.1 = Cn) (he : wc[q0]? = some (b, .inr (ci, fs))) (hn : As.length = n) (hsz : ls.size = nL) (hst : st0 = As.reverse ++ .ref b :: rest) (hW : (rest.map fun v => v.category).sum ≤ 8) (hdg : decode cc pc = .ok (.invokevirtual index, 3)) (hc1 : cells ≤ R.cells) (hs1 : slots ≤ R.slots) :
    va_Run p l e R s m args below meth c H locs cells slots 0 0 (F0 m pc ls st0) rest (Qc H.size (Value.ref b :: As).toArray) (fr H.size) := by
  subst hcn
  exact va_runV (As := As) (rest := rest) ⟨C.1, C.2.1, C.2.2.1, C.2.2.2.1, C.2.2.2.2.1⟩ (hM H.size) cw ⟨fun a U g mk q => ⟨q.1, q.2.1, q.2.2.1, q.2.2.2.1.calling, q.2.2.2.2⟩, va_recv hK.1 hPc hc he, fun U hU hW => ⟨rfl, by rw [hU], by rw [hU]; exact hPc, hK.warm hW, hDc.weaken (fun _ _ _ _ => trivial)⟩⟩ rfl hn hsz hst (lv_room hW) hdg ⟨hc1, hs1⟩
theorem run_S (C : CX p s m args meth c cc nL ret Ts own) (hM : ∀ sz : Nat, Met l y ws rm (PreC D cI cZ As wc sz) (Qc sz) 0 0 (fr sz)) (cw : CallB R s args own index y bytes maxL ret' ws rm 0 0 n ∧ (Cond.static y).before args s = true) (hK : KK D cI cZ s) (hPc : va_P D classes wc H) (hDc : va_D A wc) (hn : As.length = n) (hsz : ls.size = nL) (hst : st0 = As.reverse ++ rest) (hW : (rest.map fun v => v.category).sum ≤ 8) (hdg : decode cc pc = .ok (.invokestatic index, 3)) (hc1 : cells ≤ R.cells) (hs1 : slots ≤ R.slots) :
    va_Run p l e R s m args below meth c H locs cells slots 0 0 (F0 m pc ls st0) rest (Qc H.size As.toArray) (fr H.size) :=
  va_runS (As := As) (rest := rest) ⟨C.1, C.2.1, C.2.2.1, C.2.2.2.1, C.2.2.2.2.1⟩ (hM H.size) cw ⟨fun a U g mk q => ⟨q.1, q.2.1, q.2.2.1, q.2.2.2.1.calling, q.2.2.2.2⟩, fun U hU hW => ⟨rfl, by rw [hU], by rw [hU]; exact hPc, hK.warm hW, hDc.weaken (fun _ _ _ _ => trivial)⟩⟩ rfl hn hsz hst (lv_room hW) hdg ⟨hc1, hs1⟩
theorem run_SN {host : String} (C : CX p s m args meth c cc nL ret Ts own) (hM : ∀ sz : Nat, Met l y ws rm (PreC D cI cZ As wc sz) (Qc sz) 0 0 (fr sz)) (cw : va_CN R s args own index y host bytes maxL ret' ws rm 0 0 n ∧ (Cond.static y).before args s = true ∧ True) (hK : KK D cI cZ s) (hPc : va_P D classes wc H) (hDc : va_D A wc) (hn : As.length = n) (hsz : ls.size = nL) (hst : st0 = As.reverse ++ rest) (hW : (rest.map fun v => v.category).sum ≤ 8) (hdg : decode cc pc = .ok (.invokestatic index, 3)) (hc1 : cells ≤ R.cells) (hs1 : slots ≤ R.slots) :
    va_Run p l e R s m args below meth c H locs cells slots 0 0 (F0 m pc ls st0) rest (Qc H.size As.toArray) (fr H.size) :=
  va_runSN (As := As) (rest := rest) ⟨C.1, C.2.1, C.2.2.1, C.2.2.2.1, C.2.2.2.2.1⟩ (hM H.size) cw ⟨fun a U g mk q => ⟨q.1, q.2.1, q.2.2.1, q.2.2.2.1.calling, q.2.2.2.2⟩, fun U hU hW => ⟨rfl, by rw [hU], by rw [hU]; exact hPc, hK.warm hW, hDc.weaken (fun _ _ _ _ => trivial)⟩⟩ rfl hn hsz hst (lv_room hW) hdg ⟨hc1, hs1⟩
variable {S : Type} {wu : S → va_W} {wsx wr : va_W} {a : Array Value}
theorem aft_i {post : Int32 → S → Prop} (hr : va_Run p l e R s m args below meth c H locs cells slots 0 0 (F0 m pc ls st0) rest (va_Qi post (PoB D (va_A wc H.size) wu) (va_A wc H.size) a) (va_A wc H.size)) (hP : va_P D classes wsx H) (hD : va_D A0 wsx) (hS : va_S A0 H0 H locs) (hA : ∀ q, H0.size ≤ q → A0 q) (isC isR : List Nat) (hC : isC.map (fun i => wsx[i]?) = wc.map some) (hR : isR.map (fun i => wsx[i]?) = wr.map some) (hn : va_nd isR = true) (hdis : ∀ i ∈ isR, i ∉ isC)
    (kk : ∀ (r : Int32) (u : S) (H1 : Heap) (locs1 : List Loc), post r u → va_P D classes (wr ++ wu u) H1 → va_D A0 (wr ++ wu u) → va_S A0 H0 H1 locs1 → W p l e R s m args below meth c H1 locs1 cells slots Q (F0 m (pc + 3) ls (.int r :: rest))) : W p l e R s m args below meth c H locs cells slots Q (F0 m pc ls st0) := by
  have hFc := va_free (wc := wc) hD hS hA isC hC
  refine va_calli hr hS (fun q _ h => hFc q h) hFc (fun r u t H1 locs1 ht hvm hw hB hz1 hk1 hS => ?_)
  obtain ⟨hP1, hD1⟩ := hB
  rw [ht] at hP1
  obtain ⟨hP2, hD2⟩ := va_join (wr := wr) (w1 := wu u) hP hD isC isR hC hR hn hdis hk1 hFc hP1 hD1
  exact kk r u H1 locs1 hw hP2 hD2 hS
theorem aft_l {post : Int64 → S → Prop} (hr : va_Run p l e R s m args below meth c H locs cells slots 0 0 (F0 m pc ls st0) rest (va_Ql post (PoB D (va_A wc H.size) wu) (va_A wc H.size) a) (va_A wc H.size)) (hP : va_P D classes wsx H) (hD : va_D A0 wsx) (hS : va_S A0 H0 H locs) (hA : ∀ q, H0.size ≤ q → A0 q) (isC isR : List Nat) (hC : isC.map (fun i => wsx[i]?) = wc.map some) (hR : isR.map (fun i => wsx[i]?) = wr.map some) (hn : va_nd isR = true) (hdis : ∀ i ∈ isR, i ∉ isC)
    (kk : ∀ (r : Int64) (u : S) (H1 : Heap) (locs1 : List Loc), post r u → va_P D classes (wr ++ wu u) H1 → va_D A0 (wr ++ wu u) → va_S A0 H0 H1 locs1 → W p l e R s m args below meth c H1 locs1 cells slots Q (F0 m (pc + 3) ls (.long r :: rest))) : W p l e R s m args below meth c H locs cells slots Q (F0 m pc ls st0) := by
  have hFc := va_free (wc := wc) hD hS hA isC hC
  refine va_calll hr hS (fun q _ h => hFc q h) hFc (fun r u t H1 locs1 ht hvm hw hB hz1 hk1 hS => ?_)
  obtain ⟨hP1, hD1⟩ := hB
  rw [ht] at hP1
  obtain ⟨hP2, hD2⟩ := va_join (wr := wr) (w1 := wu u) hP hD isC isR hC hR hn hdis hk1 hFc hP1 hD1
  exact kk r u H1 locs1 hw hP2 hD2 hS
theorem aft_v {post : S → Prop} (hr : va_Run p l e R s m args below meth c H locs cells slots 0 0 (F0 m pc ls st0) rest (va_Qv post (PoB D (va_A wc H.size) wu) (va_A wc H.size) a) (va_A wc H.size)) (hP : va_P D classes wsx H) (hD : va_D A0 wsx) (hS : va_S A0 H0 H locs) (hA : ∀ q, H0.size ≤ q → A0 q) (isC isR : List Nat) (hC : isC.map (fun i => wsx[i]?) = wc.map some) (hR : isR.map (fun i => wsx[i]?) = wr.map some) (hn : va_nd isR = true) (hdis : ∀ i ∈ isR, i ∉ isC)
    (kk : ∀ (u : S) (H1 : Heap) (locs1 : List Loc), post u → va_P D classes (wr ++ wu u) H1 → va_D A0 (wr ++ wu u) → va_S A0 H0 H1 locs1 → W p l e R s m args below meth c H1 locs1 cells slots Q (F0 m (pc + 3) ls rest)) : W p l e R s m args below meth c H locs cells slots Q (F0 m pc ls st0) := by
  have hFc := va_free (wc := wc) hD hS hA isC hC
  refine va_callv hr hS (fun q _ h => hFc q h) hFc (fun u t H1 locs1 ht hvm hw hB hz1 hk1 hS => ?_)
  obtain ⟨hP1, hD1⟩ := hB
  rw [ht] at hP1
  obtain ⟨hP2, hD2⟩ := va_join (wr := wr) (w1 := wu u) hP hD isC isR hC hR hn hdis hk1 hFc hP1 hD1
  exact kk u H1 locs1 hw hP2 hD2 hS
end CALLS
