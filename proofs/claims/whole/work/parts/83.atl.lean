/-! the law's own at: it catches -/
theorem wAI_cat : Cond.classLink RL 13 xAI ∈ gw := gw_of (w := Cond.classLink RL 13 xAI) (by decide +kernel) (by decide +kernel)
section CALLT
variable {p : Program} {l : Launch} {e : Env} {R : Room} {s : State} {m : MethodId} {args : Array Value} {below : List Frame} {meth : Method} {c : Code} {T : State} {locs : List Loc} {cells slots : Nat}
/-- a virtual call whose contract says that it throws: where it leaves the caller -/
theorem callVT (X : Stand p l e R s m args below meth c T locs cells slots) (hexec : p.tables.exec = Jvm.exec) {own C : String} {index : Nat} {y : MethodName} {bytes : ByteArray} {maxL : Nat} {ret : Option FieldType}
    (hown : s.vm.findClass own = some m.cls) (hlink : (Cond.methodLink own index y).before args s = true) (hinst : (Cond.instanceMethod y).before args s = true) (hsel : (Cond.selects C y y).before args s = true)
    (hinit : (Cond.initialized y.cls).before args s = true) (hcode : (Cond.code y bytes maxL ret).before args s = true) (hy : y.cls ≠ "java/lang/invoke/MethodHandle" ∧ y.cls ≠ "java/lang/invoke/VarHandle")
    {S : Spec} {P : Array Value → State → Prop} {Q : Array Value → State → Outcome → State → Prop} (hM : MetFree l y S P (fun _ _ _ _ _ => True) Q)
    {L : List Loc} {k n : Nat} (hQ : ∀ a st oc t, Q a st oc t → ∃ v, oc = .threw v ∧ st.WarmedH t.vm ∧ st.sameButNew ({ t with vm := st.vm } : State) L k n)
    {b : Addr} {cellB : Cell} (hcell : T.heap[b]? = some cellB) (hobj : cellB.vm.isStatics = false) (hcls : s.vm.findClass C = some cellB.cls)
    {g : JFrame} (hg : g.method = m) (hsize : g.locals.size = c.maxLocals) {argsL rest : List Value} (hlen : ∀ sig, parseMethodDescriptor y.desc = some sig → argsL.length = sig.parameters.length)
    (hstack : g.stack = argsL.reverse ++ .ref b :: rest) (hdg : decode c.code g.pc = .ok (.invokevirtual index, 3))
    (r1 : S.room.frames + 1 ≤ R.frames) (r2 : 2 * g.monitorRoom + (rest.map fun v => v.category).sum + (maxL + 11) + S.room.locals ≤ R.locals) (r3 : cells + S.room.cells ≤ R.cells) (r4 : slots + S.room.slots ≤ R.slots)
    (hpre : ∀ vm₁, s.WarmedH vm₁ → S.pre.before (Value.ref b :: argsL).toArray (T.setVm vm₁) = true ∧ ∀ (g' : JFrame) mk, P (Value.ref b :: argsL).toArray ((T.setVm vm₁).calling g' mk (Value.ref b :: argsL).toArray)) :
    ∃ (v : Addr) (vm₁ : Vm) (st t T' : State), s.WarmedH vm₁ ∧ (st.heap = T.heap ∧ st.vm = vm₁) ∧ Stand p l e R s m args below meth c T' (locs ++ L) (cells + k) (slots + n) ∧ T'.heap = t.heap ∧ Q (Value.ref b :: argsL).toArray st (.threw v) t ∧
      ∀ target, Steps p.tables e below ((T'.setTop { g with stack := rest }).pushFrame (.throwing v)) target → Steps p.tables e below (T.setTop g) target := by
  obtain ⟨mk, methM, hnamed, hmethM, hstM, habM⟩ := Cond.instanceMethod_spec hinst
  obtain ⟨methM', cM, hmethM', hcM, -, hlM, -, -, -, hsigM⟩ := Cond.code_spec hnamed hcode
  cases hmethM.symm.trans hmethM'
  obtain ⟨c2, r2', m2, q1, q2, q3, q4, kP, hkP, hkPi⟩ := Cond.selects_spec hsel
  cases hcls.symm.trans q1
  cases (State.methodFound?_of_named hnamed hy).symm.trans q2
  cases hnamed.symm.trans q3
  have hselP : selectMethod e.platform s.vm cellB.cls mk = .method mk := by rw [Launch.admits_selectMethod X.admits]; exact q4
  obtain ⟨vm₁, X₁, hstep₁⟩ := X.invokevirtual hexec hown hlink hnamed hmethM hstM hkP hkPi hy (a := b) (cell := cellB) hcell
    (fun z h => by rw [h] at hobj; cases hobj) hselP hmethM habM hkP hkPi (g := g) hg (argsL := argsL) (rest := rest) (hlen _ hsigM) hstack hdg
  have hW₁ : s.WarmedH vm₁ := X₁.warmed
  obtain ⟨hp1, hp2⟩ := hpre vm₁ hW₁
  obtain ⟨kY, hkY, heY⟩ := hW₁.alike.2.2 _ _ hkP
  have hini : kP.init = .initialized := Cond.initialized_spec (findClass_of_methodNamed hnamed) hkP hinit
  have happ : S.appliesLoose y e.platform ((T.setVm vm₁).calling { g with stack := rest } mk (Value.ref b :: argsL).toArray) = true :=
    Spec.appliesLoose_calling (g := { g with stack := rest }) (by show At _ g.method c below; rw [hg]; exact X₁.here) hdg (X₁.named hnamed) hkY (by rw [heY]; exact hini)
      (X₁.room_calling (g := { g with stack := rest }) (R' := S.room) hsize (by show vm₁.method? mk = some methM; rw [hW₁.alike.method?]; exact hmethM) hcM r1 (by rw [hlM]; exact r2) r3 r4) hp1
  have hfrm : ((T.setVm vm₁).setTop { g with stack := rest }).frames = [.java { g with stack := rest }] ++ below := by rw [State.frames_setTop' _ X₁.here.top, X₁.tail]; rfl
  obtain ⟨oc, t, hsteps, -, hend, hq⟩ := Jvm.Free.Steps.callFree hM p X.admits X.cas X.clock (acts := []) hfrm happ (hp2 _ _) trivial
  rw [hfrm] at hend
  obtain ⟨v, rfl, hw, hs⟩ := hQ _ _ _ _ hq
  obtain ⟨T', X', -, -, rfl⟩ := X₁.outOfThrown (g := { g with stack := rest }) hg hend hw hs
  exact ⟨v, vm₁, _, _, T', hW₁, ⟨by simp [State.pushFrame, State.setFrames, State.setTop, State.modifyTopJava], by simp [State.pushFrame, State.setFrames, State.setTop, State.modifyTopJava]⟩, X', (Stand.throwing_heap T' _ v).symm, hq, fun target h => hstep₁ _ fun acts => by rw [doInvoke_state]; exact hsteps.trans h⟩
theorem push_eq (X : Stand p l e R s m args below meth c T locs cells slots) (g : JFrame) (a : Addr) : (T.setTop g).pushFrame (.throwing a) = T.setFrames (.throwing a :: .java g :: below) := by
  obtain ⟨g₀, hr⟩ := X.frames_eq
  rw [State.pushFrame, State.frames_setTop _ hr, State.setTop_of_frames _ hr, State.setFrames_setFrames]
/-- the one row of a method's table takes a thrown object of the row's own class; that class's pool entry may be open or filled -/
theorem catch1 (X : Stand p l e R s m args below meth c T locs cells slots) {own C : String} (hown : s.vm.findClass own = some m.cls) {x : ExceptionTableEntry} (htab : c.exceptionTable.toList = [x]) {g : JFrame} (hg : g.method = m) (hpc : covers x g.pc = true) (h0 : x.catchType ≠ 0)
    (hlink : (Cond.classLink own x.catchType C).before args s = true) {a : Addr} {ce : Cell} (hce : T.heap[a]? = some ce) (hv : ce.vm = .none) (hC : s.vm.findClass C = some ce.cls) :
    ∃ vm', Stand p l e R s m args below meth c (T.setVm vm') locs cells slots ∧ ∀ t, Steps p.tables e below ((T.setVm vm').setTop { g with pc := x.handlerPc, stack := [.ref a] }) t → Steps p.tables e below ((T.setTop g).pushFrame (.throwing a)) t := by
  subst hg
  obtain ⟨cT, hcT, hcl⟩ := Cond.classLink_spec hown hlink e.platform (by rw [X.admits.platform])
  cases hC.symm.trans hcT
  obtain ⟨dk, _, _, kt, hd, _, _, _, _, hkt, _, hopen⟩ := hcl.here
  obtain ⟨ha, ht⟩ := (resolveClass_links e.toSetting (X.warmed.classLinks hcl)).op (op := VmOp.resolveClass g.method.cls x.catchType) rfl
  have hW := X.warmed.noted hd hopen (State.rightAt_cls hcl)
  generalize T.vm.noted g.method.cls x.catchType (.cls ce.cls) = vm' at ha ht hW
  refine ⟨vm', X.noted hW, fun t hrest => ?_⟩
  obtain ⟨k', hk', -⟩ := hW.alike.2.2 _ _ hkt
  have hsz' : vm'.classes.size = T.vm.classes.size := hW.alike.2.1.trans X.warmed.alike.2.1.symm
  have hfit : vm'.assignable ce.cls ce.cls = true := by
    show vm'.assignableAux (255 + 1) ce.cls ce.cls = true
    rw [Vm.assignableAux]; simp
  have hobj : ∀ q, ce.vm ≠ .statics q := VmData.ne_statics_of (by rw [hv]; rfl)
  have hvm := Stand.throwing_vm T g a
  have hhp := Stand.throwing_heap T g a
  have hS := push_eq X g a
  obtain ⟨hgo, hw⟩ := X.here.throwing a
  have hfs := frames_entered (g := g) X.here.top (.throwing a)
  rw [X.tail] at hfs
  generalize (T.setTop g).pushFrame (.throwing a) = S at hvm hhp hS hgo hw hfs ⊢
  have search : ∀ (Q : Handler → Pre) (E : CtlPost) (d : Bool) (acts : List Action), wp (findHandler g a) Q E e d acts S ↔ Q (.found x.handlerPc) d acts (S.setVm vm') := by
    intro Q E d acts
    rw [Jvm.W.findHandler_eq (by rw [hvm]; exact X.method') X.code, htab]
    simp only [covers] at hpc
    rw [← hvm] at ha ht
    rw [← hhp] at hce
    have hland := VmOp.lands_eq (s := S) ht (by rw [hvm, hsz']; exact Nat.le_refl _)
    simp [findHandler.go, hpc, h0, ha, ht, hland, hce, hobj, hk', hfit, VmOp.dirties, VmOp.acts]
  have hstep : (stepThrowing e S a (.java g :: below)).1 = (S.setVm vm').setFrames (.java { g with pc := x.handlerPc, stack := [.ref a] } :: below) := by
    simp only [stepThrowing, searchFrame, vmDo]
    generalize hr : Sem.go _ e false [] S = res
    obtain ⟨as, rfl, -⟩ := Sem.eq_ok_of hr (a := Handler.found x.handlerPc) (s' := S.setVm vm') (acts' := []) (by simp [search _ _ _ _])
    rfl
  refine Steps.head hgo hw ?_
  obtain ⟨g₀, hfr⟩ := X.frames_eq
  have hfr' : (T.setVm vm').frames = .java g₀ :: below := hfr
  have hmove : (T.setFrames (.throwing a :: .java g :: below)).setVm vm' = (T.setVm vm').setFrames (.throwing a :: .java g :: below) := rfl
  rw [stepThread_throwing hfs, hstep, hS, hmove, State.setFrames_setFrames, ← State.setTop_of_frames _ hfr']
  exact hrest
end CALLT
def hhL : List (Nat × Nat × Nat × Nat) := [(0, 9, 12, 13)]
def tsL : List Cond := Cond.codeWith yL_at cL_at 4 (some .int) hhL :: gw
def PhL (K N : TK) (I : TI) (R : TR) (L : TL) (sz : Nat) (res : List It) (i : Int32) (w : Nat) : PT := fun v K' N' I' R' L' sz' => K' = K ∧ N' = N ∧ I' = I ∧ R' = R ∧ ((rAt res i = none ∧ v = some (.int 1) ∧ L' = L ∧ sz' = sz + 1) ∨ ∃ x, rAt res i = some x ∧ v = some (.int 0) ∧ L' = u2 L w 0 x.1.toInt64 ∧ sz' = sz)
theorem rAt_none {res : List It} {i : Int32} (hl : res.length ≤ 300) (h : rAt res i = none) : hasB res.length i = false := by
  cases hb : hasB res.length i with
  | false => rfl
  | true =>
    exfalso
    obtain ⟨j, hj, rfl⟩ := hasB_spec (by omega) hb
    unfold rAt at h
    rw [if_pos hb, nI_clamp (by omega), List.getElem?_eq_getElem hj] at h
    cases h
section ATL
variable {l : Launch} {G : Gx} {d : Nat} {K N : TK} {I : TI} {R : TR} {L : TL} {sz o w : Nat} {res : List It}
theorem tL_at {i : Int32} (hl : l.stackTraces = false) (hF : AtF K N R o) (hr : RowIs I (o + 12) res) (hw : K w = 22 ∧ N w = 1) : Met l yL_at tsL (rmD (d + 9) 1 6) (fun a U => PrM G [.ref o, .int i, .ref w] K N I R L sz a U ∧ TW U) (PoM G K sz (PhL K N I R L sz res i w)) 1 6 (AM K sz) := by
  refine va_MetW (cc := cL_at) (maxL := 4) (ret := some .int) (hh := hhL) (by decide) rfl ?_
  intro p e s m args below meth c s₁ B hml hv
  obtain ⟨⟨rfl, hsz, hP, hKK, hB, hNW⟩, hTW⟩ := hv
  have hts0 := atoms_spec (ws := tsL) B.pre
  have hcodeV := hts0 _ List.mem_cons_self
  have hts : ∀ w' ∈ gw, w'.before ([Value.ref o, .int i, .ref w] : List Value).toArray s = true := fun w' hw' => hts0 w' (List.mem_cons_of_mem _ hw')
  have hown : s.vm.findClass RL = some m.cls := findClass_of_methodNamed B.named
  have hx := B.exec
  have hb := B.bytes
  have C : Cx p s m ([Value.ref o, .int i, .ref w] : List Value).toArray meth c (AM K sz) G RL cL_at 4 := ⟨hx, hb, hml, hown, hts, hKK, fun q h => Or.inr (by omega), B.notSynchronized, hNW⟩
  have hWd : Wd G (AM K sz) s K N I R L sz s.heap [] := ⟨hsz, hP, va_S.rf, fun a h => ⟨Or.inl h, hB a h⟩⟩
  have hcat : ∀ v ∈ ([Value.ref o, .int i, .ref w] : List Value), v.category = 1 := catR (catI (catR cat0))
  have hl2 := lv_entry [Value.ref o, .int i, .ref w] (n := 4) (Nat.le_of_ble_eq_true rfl)
  rw [la_eq [Value.ref o, .int i, .ref w] 0 hcat] at hl2
  rw [lg_entry_eq]
  generalize (lg_sl [Value.ref o, .int i, .ref w] ++ List.replicate (4 - (lg_sl [Value.ref o, .int i, .ref w]).length) Slot.unset).toArray = ls at hl2 ⊢
  cases hra : rAt res i with
  | some x =>
    have key : Wm p l e (rmD (d + 9) 1 6) s m ([Value.ref o, .int i, .ref w] : List Value).toArray below meth c (MQ below (PoM G K sz (PhL K N I R L sz res i w)) ([Value.ref o, .int i, .ref w] : List Value).toArray s 1 6 (AM K sz)) (AM K sz) G 4 0 (la 0 [Value.ref o, .int i, .ref w]) [] K N I R L sz 0 0 := by
      refine wm_aload_n C rfl dL_at_0 ?_
      refine wm_iconst C 0 dL_at_1 ?_ (by decide)
      refine wm_aload_n C rfl dL_at_2 ?_
      refine wm_iload_n C rfl dL_at_3 ?_
      refine wm_cVI1 (d := d + 2) C vqL_7 (tX5_at hF hr hra) hF.1 ⟨by show d + 2 + 1 ≤ d + 9; omega, by show 40 * (d + 2 + 1) ≤ 40 * (d + 9); omega⟩ (Nat.le_of_ble_eq_true rfl) ⟨by show 0 ≤ 1; omega, by show 0 ≤ 6; omega⟩ dL_at_4 (fun r7 I8 h8 => ?_)
      obtain ⟨rfl, rfl⟩ := h8
      refine wm_i2l C dL_at_7 ?_
      refine wm_last C hw.1 (by rw [hw.2]; exact vp_in_nI (show 0 < 1 by omega) (by decide)) dL_at_8 ?_
      refine wm_goto C 15 dL_at_9 ?_ (by decide)
      refine wm_iconst C 0 dL_at_15 ?_ (by decide)
      exact wm_iret C B.returns rfl (by omega) (by omega) ⟨rfl, rfl, rfl, rfl, Or.inr ⟨x, hra, rfl, rfl, rfl⟩⟩ dL_at_16
    exact key s.heap [] ls hWd hl2 (la_cat _ 0 hcat)
  | none =>
    have hno := rAt_none hr.2.1 hra
    show W p l e (rmD (d + 9) 1 6) s m ([Value.ref o, .int i, .ref w] : List Value).toArray below meth c s.heap [] 0 0 (MQ below (PoM G K sz (PhL K N I R L sz res i w)) ([Value.ref o, .int i, .ref w] : List Value).toArray s 1 6 (AM K sz)) (F0 m 0 ls [])
    refine lv_aload_n hx hb dL_at_0 rfl (hl2.2.2 _ (lget_mem (lv := la 0 [Value.ref o, .int i, .ref w]) (i := 2) (v := .ref w) rfl)) ?_
    refine lv_iconst hx hb dL_at_1 (v := 0) rfl ?_
    refine lv_aload_n hx hb dL_at_2 rfl (hl2.2.2 _ (lget_mem (lv := la 0 [Value.ref o, .int i, .ref w]) (i := 0) (v := .ref o) rfl)) ?_
    refine lv_iload_n hx hb dL_at_3 rfl (hl2.2.2 _ (lget_mem (lv := la 0 [Value.ref o, .int i, .ref w]) (i := 1) (v := .int i) rfl)) ?_
    intro T hT X
    obtain ⟨⟨w1, w2, w3, w4, w5⟩, ⟨r, hr2, hr1⟩, k0, k1, y1, y2, y3, y4⟩ := vqL_7
    obtain ⟨cell, g1, g2, g3⟩ := va_recv hKK (va_P1 (hP o _ (cellO_o (ci := 6) hF.1 k0 k1))) hr2 (q0 := 0) rfl
    have hgw : ∀ vm₁, s.WarmedH vm₁ → ∀ w' ∈ gw, w'.before ([Value.ref o, .int i] : List Value).toArray (T.setVm vm₁) = true := fun vm₁ hW₁ w' hw' => word_at (U := T.setVm vm₁) hW₁ (good_of_word (gw_good hw')) (hts w' hw')
    have hro := lv_room (m := m) (pc := 4) (ls := ls) (rest := [.int 0, .ref w]) (st := [.int 0, .ref w]) (Nat.le_of_ble_eq_true rfl)
    obtain ⟨v, vm₁, st, t, U', hW₁, ⟨es, ev⟩, X', et, ⟨q1, q2, q3, q4, ce, z4, z5, z6⟩, stp⟩ := callVT X hx (own := RL) (C := RX5) (index := 7) (y := yX5_at) (bytes := cX5_at) (maxL := 2) (ret := some .int) hown (hts _ w1) (hts _ w2) (hts _ w3) (hts _ w4) (hts _ w5) ⟨y1, y2⟩
      (at_throws (d := d) (G := G) (K := K) (N := N) (I := I) (R := R) (L := L) (sz := sz) (o := o) (i := i) hl hF hr.1 hno) (L := []) (k := 1) (n := 6) (fun _ _ _ _ hq => ⟨sz, hq.1, hq.2.1⟩)
      (b := o) (cellB := cell) (by rw [hT]; exact g1) g2 (by rw [hr1] at g3; exact g3) (g := F0 m 4 ls [.int i, .ref o, .int 0, .ref w]) rfl (by rw [hml]; exact hl2.1) (argsL := [.int i]) (rest := [.int 0, .ref w]) (fun sig h => by rw [h] at y3; simpa using y3.symm) rfl (by rw [hb]; exact dL_at_4)
      (by show d + 8 + 1 ≤ d + 9; omega) (Nat.le_trans (Nat.add_le_add_right (Nat.add_le_add_right hro (2 + 11)) (40 * (d + 8))) (by show 8 + (2 + 11) + 40 * (d + 8) ≤ 40 * (d + 9); omega)) (by show 0 + 1 ≤ 1; omega) (by show 0 + 6 ≤ 6; omega)
      (fun vm₁ hW₁ => ⟨atoms_intro fun w' hw' => (List.mem_cons.mp hw').elim (fun h => by subst h; exact hgw vm₁ hW₁ _ w5) (fun h => hgw vm₁ hW₁ _ h), fun g' mk => ⟨PrM.blind _ _ _ _ (PrM.at C hWd [.ref o, .int i] (T.setVm vm₁) hT hW₁), (hTW.mv (U := T.setVm vm₁) hW₁ (fun a cl h _ => by show T.heap[a]? = some cl; rw [hT]; exact h)).mv (State.WarmedH.refl _) (fun _ _ h _ => h)⟩⟩)
    have hvz : v = sz := by injection q1
    obtain rfl := hvz.symm
    rw [← et] at q3 q4 z4
    obtain ⟨m9, meth9, c9, hn9, h1, h2, h3, h4, h5, h6, h7, h8⟩ := Cond.codeWith_spec hcodeV
    cases B.named.symm.trans hn9
    cases X.method.symm.trans h1
    cases X.code.symm.trans h2
    obtain ⟨xe, hxe, x1, x2, x3, x4⟩ : ∃ xe, c.exceptionTable.toList = [xe] ∧ xe.startPc = 0 ∧ xe.endPc = 9 ∧ xe.handlerPc = 12 ∧ xe.catchType = 13 := by
      generalize c.exceptionTable.toList = tl at h5
      match tl, h5 with
      | [], h5 => simp [hhL] at h5
      | [xe], h5 =>
        simp [hhL] at h5
        exact ⟨xe, rfl, h5⟩
      | _ :: _ :: _, h5 => simp [hhL] at h5
    have hfc : s.vm.findClass xAI = some ce.cls := by
      rw [ev, hW₁.alike.findClass] at z5; exact z5
    obtain ⟨vm', X'', stp2⟩ := catch1 X' (own := RL) (C := xAI) hown hxe (g := { F0 m 4 ls [.int i, .ref o, .int 0, .ref w] with stack := [.int 0, .ref w] }) rfl (by show covers xe 4 = true; simp [covers, x1, x2]) (by rw [x4]; decide) (by rw [x4]; exact hts _ wAI_cat) z4 z6 hfc
    have key : Wm p l e (rmD (d + 9) 1 6) s m ([Value.ref o, .int i, .ref w] : List Value).toArray below meth c (MQ below (PoM G K sz (PhL K N I R L sz res i w)) ([Value.ref o, .int i, .ref w] : List Value).toArray s 1 6 (AM K sz)) (AM K sz) G 4 12 (la 0 [Value.ref o, .int i, .ref w]) [.ref sz] K N I R L (sz + 1) 1 6 := by
      refine wm_astore_n C (by decide) dL_at_12 ?_
      refine wm_iconst C 1 dL_at_13 ?_ (by decide)
      exact wm_iret C B.returns rfl (by omega) (by omega) ⟨rfl, rfl, rfl, rfl, Or.inl ⟨hra, rfl, rfl, rfl⟩⟩ dL_at_14
    have hold : ∀ q, q < sz → U'.heap[q]? = s.heap[q]? := fun q hq => by
      rw [q3 q hq, es, hT]
    have hWd' : Wd G (AM K sz) s K N I R L (sz + 1) U'.heap [] := by
      refine ⟨q4, fun a e' he => (hP a e' he).kept (hold a ?_), ⟨by omega, fun q q1 _ => hold q (by omega), fun q hq => by cases hq⟩, fun a ha => ⟨Or.inl ha, Nat.lt_succ_of_lt (hB a ha)⟩⟩
      have := (hP a e' he).lt
      omega
    obtain ⟨t2, a1, b1⟩ := key U'.heap [] ls hWd' hl2 (la_cat _ 0 hcat) (U'.setVm vm') rfl X''
    refine ⟨t2, stp _ (stp2 _ ?_), b1⟩
    rw [x3]
    exact a1
end ATL
