/-! the law's own at: it catches -/
theorem wAI_cat : Cond.classLink RL 13 xAI ∈ gw := gw_of (w := Cond.classLink RL 13 xAI) (by decide +kernel) (by decide +kernel)
theorem wAI_cast : Cond.castable xAI xAI ∈ oA := by decide +kernel
section CALLT
variable {p : Program} {l : Launch} {e : Env} {R : Room} {s : State} {m : MethodId} {args : Array Value} {below : List Frame} {meth : Method} {c : Code} {T : State} {locs : List Loc} {cells slots : Nat}
/-- a virtual call that throws -/
theorem callVT (X : Stand p l e R s m args below meth c T locs cells slots) (hexec : p.tables.exec = Jvm.exec) {own C : String} {index : Nat} {y : MethodName} {bytes : ByteArray} {maxL : Nat} {ret : Option FieldType}
    (hown : s.vm.findClass own = some m.cls) (hlink : (Cond.methodLink own index y).before args s = true) (hinst : (Cond.instanceMethod y).before args s = true) (hsel : (Cond.selects C y y).before args s = true)
    (hcode : (Cond.code y bytes maxL ret).before args s = true) (hy : y.cls ≠ "java/lang/invoke/MethodHandle" ∧ y.cls ≠ "java/lang/invoke/VarHandle")
    {W : Nat} {Pre : Pt → Array Value → Prop} {Post : Pt → Array Value → Addr → Pt → Prop} (hK : BackT l R p e below s args y 3 W Pre Post)
    {b : Addr} {cellB : Cell} (hcell : T.heap[b]? = some cellB) (hobj : cellB.vm.isStatics = false) (hcls : s.vm.findClass C = some cellB.cls)
    {g : JFrame} (hg : g.method = m) (hsize : g.locals.size = c.maxLocals) {argsL rest : List Value} (hlen : ∀ sig, parseMethodDescriptor y.desc = some sig → argsL.length = sig.parameters.length)
    (hstack : g.stack = argsL.reverse ++ .ref b :: rest) (hW : 2 * g.monitorRoom + (rest.map fun v => v.category).sum ≤ W) (hdg : decode c.code g.pc = .ok (.invokevirtual index, 3))
    (hpre : ∀ vm₁, s.WarmedH vm₁ → Pre ⟨T.setVm vm₁, locs, cells, slots⟩ (Value.ref b :: argsL).toArray) :
    ∃ (v : Addr) (vm₁ : Vm) (B : Pt), s.WarmedH vm₁ ∧ Stand p l e R s m args below meth c B.U B.locs B.cells B.slots ∧ Post ⟨T.setVm vm₁, locs, cells, slots⟩ (Value.ref b :: argsL).toArray v B ∧
      ∀ target, Steps p.tables e below ((B.U.setTop { g with stack := rest }).pushFrame (.throwing v)) target → Steps p.tables e below (T.setTop g) target := by
  obtain ⟨mk, methM, hnamed, hmethM, hstM, habM⟩ := Cond.instanceMethod_spec hinst
  obtain ⟨methM', cM, hmethM', -, -, -, -, -, -, hsigM⟩ := Cond.code_spec hnamed hcode
  cases hmethM.symm.trans hmethM'
  obtain ⟨c2, r2, m2, q1, q2, q3, q4, kP, hkP, hkPi⟩ := Cond.selects_spec hsel
  cases hcls.symm.trans q1
  cases (State.methodFound?_of_named hnamed hy).symm.trans q2
  cases hnamed.symm.trans q3
  have hselP : selectMethod e.platform s.vm cellB.cls mk = .method mk := by rw [Launch.admits_selectMethod X.admits]; exact q4
  obtain ⟨vm₁, X₁, hstep₁⟩ := X.invokevirtual hexec hown hlink hnamed hmethM hstM hkP hkPi hy (a := b) (cell := cellB) hcell
    (fun z h => by rw [h] at hobj; cases hobj) hselP hmethM habM hkP hkPi (g := g) hg (argsL := argsL) (rest := rest) (hlen _ hsigM) hstack hdg
  obtain ⟨v, B, X', hpost, hsteps⟩ := hK m meth c ⟨T.setVm vm₁, locs, cells, slots⟩ { g with stack := rest } (.invokevirtual index) mk (Value.ref b :: argsL).toArray X₁ hg hsize hdg hW (X₁.named hnamed) (hpre vm₁ X₁.warmed)
  exact ⟨v, vm₁, B, X₁.warmed, X', hpost, fun target h => hstep₁ _ fun acts => by rw [doInvoke_state]; exact hsteps.trans h⟩
theorem push_eq (X : Stand p l e R s m args below meth c T locs cells slots) (g : JFrame) (a : Addr) : (T.setTop g).pushFrame (.throwing a) = T.setFrames (.throwing a :: .java g :: below) := by
  obtain ⟨g₀, hr⟩ := X.frames_eq
  rw [State.pushFrame, State.frames_setTop _ hr, State.setTop_of_frames _ hr, State.setFrames_setFrames]
end CALLT
def hhL : List (Nat × Nat × Nat × Nat) := [(0, 9, 12, 13)]
def tsL : List Cond := Cond.codeWith yL_at cL_at 4 (some .int) hhL :: gw
def PhL (K N : TK) (I : TI) (R : TR) (L : TL) (sz : Nat) (res : List It) (i : Int32) (w : Nat) : PT := fun v K' N' I' R' L' sz' => K' = K ∧ N' = N ∧ I' = I ∧ R' = R ∧ ((rAt res i = none ∧ v = some (.int 1) ∧ L' = L ∧ sz' = sz + 1) ∨ ∃ x, rAt res i = some x ∧ v = some (.int 0) ∧ L' = u2 L w 0 x.1.toInt64 ∧ sz' = sz)
theorem rAt_none {res : List It} {i : Int32} (hl : res.length ≤ 300) (h : rAt res i = none) : hasB res.length i = false := by
  cases hb : hasB res.length i with
  | false => rfl
  | true =>
    exfalso
    obtain ⟨j, hj, rfl⟩ := hasB_spec (by omega) hb
    unfold rAt at h
    rw [if_pos hb, nI_clamp (by omega), List.getElem?_eq_getElem hj] at h
    cases h
section ATL
variable {l : Launch} {G : Gx} {d : Nat} {K N : TK} {I : TI} {R : TR} {L : TL} {sz o w : Nat} {res : List It}
theorem tL_at {i : Int32} (hl : l.stackTraces = false) (hF : AtF K N R o) (hr : RowIs I (o + 12) res) (hw : K w = 22 ∧ N w = 1) : Met l yL_at tsL (rmD (d + 9) 1 6) (fun a U => PrM G [.ref o, .int i, .ref w] K N I R L sz a U ∧ TW U) (PoM G K sz (PhL K N I R L sz res i w)) 1 6 (AM K sz) := by
  refine va_MetW (cc := cL_at) (maxL := 4) (ret := some .int) (hh := hhL) (by decide) rfl ?_
  intro p e s m args below meth c s₁ B hml hv
  obtain ⟨⟨rfl, hsz, hP, hKK, hB, hNW⟩, hTW⟩ := hv
  have hts0 := atoms_spec (ws := tsL) B.pre
  have hcodeV := hts0 _ List.mem_cons_self
  have hts : ∀ w' ∈ gw, w'.before ([Value.ref o, .int i, .ref w] : List Value).toArray s = true := fun w' hw' => hts0 w' (List.mem_cons_of_mem _ hw')
  have hown : s.vm.findClass RL = some m.cls := findClass_of_methodNamed B.named
  have hx := B.exec
  have hb := B.bytes
  have C : Cx p s m ([Value.ref o, .int i, .ref w] : List Value).toArray meth c (AM K sz) G RL cL_at 4 := ⟨hx, hb, hml, hown, hts, hKK, fun q h => Or.inr (by omega), B.notSynchronized, hNW⟩
  have hWd : Wd G (AM K sz) s K N I R L sz s.heap [] := ⟨hsz, hP, va_S.rf, fun a h => ⟨Or.inl h, hB a h⟩⟩
  have hcat : ∀ v ∈ ([Value.ref o, .int i, .ref w] : List Value), v.category = 1 := catR (catI (catR cat0))
  have hl2 := lv_entry [Value.ref o, .int i, .ref w] (n := 4) (Nat.le_of_ble_eq_true rfl)
  rw [la_eq [Value.ref o, .int i, .ref w] 0 hcat] at hl2
  rw [lg_entry_eq]
  generalize (lg_sl [Value.ref o, .int i, .ref w] ++ List.replicate (4 - (lg_sl [Value.ref o, .int i, .ref w]).length) Slot.unset).toArray = ls at hl2 ⊢
  cases hra : rAt res i with
  | some x =>
    have key : Wm p l e (rmD (d + 9) 1 6) s m ([Value.ref o, .int i, .ref w] : List Value).toArray below meth c (MQ below (PoM G K sz (PhL K N I R L sz res i w)) ([Value.ref o, .int i, .ref w] : List Value).toArray s 1 6 (AM K sz)) (AM K sz) G 4 0 (la 0 [Value.ref o, .int i, .ref w]) [] K N I R L sz 0 0 := by
      refine wm_aload_n C rfl dL_at_0 ?_
      refine wm_iconst C 0 dL_at_1 ?_ (by decide)
      refine wm_aload_n C rfl dL_at_2 ?_
      refine wm_iload_n C rfl dL_at_3 ?_
      refine wm_cVI1 (d := d + 2) C vqL_7 (tX5_at hF hr hra) hF.1 ⟨by show d + 2 + 1 ≤ d + 9; omega, by show 40 * (d + 2 + 1) ≤ 40 * (d + 9); omega⟩ (Nat.le_of_ble_eq_true rfl) ⟨by show 0 ≤ 1; omega, by show 0 ≤ 6; omega⟩ dL_at_4 (fun r7 I8 h8 => ?_)
      obtain ⟨rfl, rfl⟩ := h8
      refine wm_i2l C dL_at_7 ?_
      refine wm_last C hw.1 (by rw [hw.2]; exact vp_in_nI (show 0 < 1 by omega) (by decide)) dL_at_8 ?_
      refine wm_goto C 15 dL_at_9 ?_ (by decide)
      refine wm_iconst C 0 dL_at_15 ?_ (by decide)
      exact wm_iret C B.returns rfl (by omega) (by omega) ⟨rfl, rfl, rfl, rfl, Or.inr ⟨x, hra, rfl, rfl, rfl⟩⟩ dL_at_16
    exact key s.heap [] ls hWd hl2 (la_cat _ 0 hcat)
  | none =>
    have hno := rAt_none hr.2.1 hra
    show W p l e (rmD (d + 9) 1 6) s m ([Value.ref o, .int i, .ref w] : List Value).toArray below meth c s.heap [] 0 0 (MQ below (PoM G K sz (PhL K N I R L sz res i w)) ([Value.ref o, .int i, .ref w] : List Value).toArray s 1 6 (AM K sz)) (F0 m 0 ls [])
    refine lv_aload_n hx hb dL_at_0 rfl (hl2.2.2 _ (lget_mem (lv := la 0 [Value.ref o, .int i, .ref w]) (i := 2) (v := .ref w) rfl)) ?_
    refine lv_iconst hx hb dL_at_1 (v := 0) rfl ?_
    refine lv_aload_n hx hb dL_at_2 rfl (hl2.2.2 _ (lget_mem (lv := la 0 [Value.ref o, .int i, .ref w]) (i := 0) (v := .ref o) rfl)) ?_
    refine lv_iload_n hx hb dL_at_3 rfl (hl2.2.2 _ (lget_mem (lv := la 0 [Value.ref o, .int i, .ref w]) (i := 1) (v := .int i) rfl)) ?_
    intro T hT X
    obtain ⟨⟨w1, w2, w3, w4, w5⟩, ⟨r, hr2, hr1⟩, k0, k1, y1, y2, y3, y4⟩ := vqL_7
    obtain ⟨cell, g1, g2, g3⟩ := va_recv hKK (va_P1 (hP o _ (cellO_o (ci := 6) hF.1 k0 k1))) hr2 (q0 := 0) rfl
    have hK : BackT l (rmD (d + 9) 1 6) p e below s ([Value.ref o, .int i, .ref w] : List Value).toArray yX5_at 3 8 (fun A a => A.cells + 1 ≤ 1 ∧ A.slots + 6 ≤ 6 ∧ PrM G [.ref o, .int i] K N I R L sz a A.U ∧ TW A.U) (fun A a v B => v = sz ∧ B.U.heap.size = sz + 1 ∧ (∀ q, q < sz → B.U.heap[q]? = A.U.heap[q]?) ∧ (∃ ce : Cell, B.U.heap[sz]? = some ce ∧ A.U.vm.findClass xAI = some ce.cls ∧ ce.vm = .none) ∧ B.locs = A.locs ++ [] ∧ B.cells = A.cells + 1 ∧ B.slots = A.slots + 6) := by
      refine BackT.of_free (bytes := cX5_at) (maxL := 2) (ret := some .int) (E := fun _ _ _ _ L' k n => L' = [] ∧ k = 1 ∧ n = 6) (at_throws (d := d) (G := G) (K := K) (N := N) (I := I) (R := R) (L := L) (sz := sz) (o := o) (i := i) hl hF hr.1 hno) (by show d + 8 + 1 ≤ d + 9; omega) (by show 8 + (2 + 11) + 40 * (d + 8) ≤ 40 * (d + 9); omega) ?_ ?_ (fun _ _ _ _ _ _ _ _ _ => trivial) ?_ ?_
      · intro m' meth' c' A a X' hp
        have hgw : ∀ w' ∈ gw, w'.before a A.U = true := fun w' hw' => word_at X'.warmed (good_of_word (gw_good hw')) (hts w' hw')
        refine ⟨atoms_intro fun w' hw' => ?_, hgw _ w5, hgw _ w4, hp.1, hp.2.1⟩
        rcases List.mem_cons.mp hw' with rfl | h
        · exact hgw _ w5
        · exact hgw _ h
      · intro m' meth' c' A a g mk X' hp
        refine ⟨PrM.blind _ _ _ _ hp.2.2.1, hp.2.2.2.mv (State.WarmedH.refl A.U) (fun _ _ h _ => h)⟩
      · intro a first oc t hq
        exact ⟨[], 1, 6, hq.2.1, rfl, rfl, rfl⟩
      · intro m' meth' c' A a g mk v t L' k n X' hp hq hF' hE
        obtain ⟨rfl, rfl, rfl⟩ := hE
        obtain ⟨q1, q2, q3, q4, q5⟩ := hq
        cases q1
        exact ⟨rfl, q4, q3, q5, rfl, rfl, rfl⟩
    obtain ⟨v, vm₁, Bp, hW₁, X', ⟨hvz, z2, z3, ⟨ce, z4, z5, z6⟩, z7, z8, z9⟩, stp⟩ := callVT X hx (own := RL) (C := RX5) (index := 7) (y := yX5_at) (bytes := cX5_at) (maxL := 2) (ret := some .int) hown (hts _ w1) (hts _ w2) (hts _ w3) (hts _ w5) ⟨y1, y2⟩ hK (b := o) (cellB := cell) (by rw [hT]; exact g1) g2 (by rw [hr1] at g3; exact g3) (g := F0 m 4 ls [.int i, .ref o, .int 0, .ref w]) rfl (by rw [hml]; exact hl2.1) (argsL := [.int i]) (rest := [.int 0, .ref w]) (fun sig h => by rw [h] at y3; simpa using y3.symm) rfl (lv_room (m := m) (pc := 4) (ls := ls) (rest := [.int 0, .ref w]) (Nat.le_of_ble_eq_true rfl)) (by rw [hb]; exact dL_at_4) (fun vm₁ hW₁ => ⟨by show 0 + 1 ≤ 1; omega, by show 0 + 6 ≤ 6; omega, PrM.at C hWd [.ref o, .int i] (T.setVm vm₁) hT hW₁, hTW.mv hW₁ (fun a cl h _ => by show T.heap[a]? = some cl; rw [hT]; exact h)⟩)
    obtain rfl := hvz.symm
    obtain ⟨U', l', c', n'⟩ := Bp
    dsimp only [Pt.U, Pt.locs, Pt.cells, Pt.slots] at X' z2 z3 z4 z5 z7 z8 z9 stp
    subst z7; subst z8; subst z9
    obtain ⟨m9, meth9, c9, hn9, h1, h2, h3, h4, h5, h6, h7, h8⟩ := Cond.codeWith_spec hcodeV
    cases B.named.symm.trans hn9
    cases X.method.symm.trans h1
    cases X.code.symm.trans h2
    obtain ⟨xe, hxe, x1, x2, x3, x4⟩ : ∃ xe, c.exceptionTable.toList = [] ++ xe :: [] ∧ xe.startPc = 0 ∧ xe.endPc = 9 ∧ xe.handlerPc = 12 ∧ xe.catchType = 13 := by
      generalize c.exceptionTable.toList = tl at h5
      match tl, h5 with
      | [], h5 => simp [hhL] at h5
      | [xe], h5 =>
        simp [hhL] at h5
        exact ⟨xe, rfl, h5⟩
      | _ :: _ :: _, h5 => simp [hhL] at h5
    have hfc : s.vm.findClass xAI = some ce.cls := by
      have hz : (T.setVm vm₁).vm.findClass xAI = s.vm.findClass xAI := hW₁.alike.findClass xAI _
      rw [← hz]; exact z5
    obtain ⟨c3, c4, hc3, hc4, hasg⟩ := Cond.castable_spec (hTW _ wAI_cast #[])
    cases hc3.symm.trans hfc
    cases hc4.symm.trans hfc
    obtain ⟨vm', X'', stp2⟩ := X'.caughtLink sz (g := { F0 m 4 ls [.int i, .ref o, .int 0, .ref w] with stack := [.int 0, .ref w] }) rfl (own := RL) (name := xAI) hown [] xe [] hxe (fun y hy => by cases hy) (by show covers xe 4 = true; simp [covers, x1, x2]) (by rw [x4]; decide) (by rw [x4]; exact hts _ wAI_cat) hfc z4 (by rw [z6]; rfl) hasg
    have key : Wm p l e (rmD (d + 9) 1 6) s m ([Value.ref o, .int i, .ref w] : List Value).toArray below meth c (MQ below (PoM G K sz (PhL K N I R L sz res i w)) ([Value.ref o, .int i, .ref w] : List Value).toArray s 1 6 (AM K sz)) (AM K sz) G 4 12 (la 0 [Value.ref o, .int i, .ref w]) [.ref sz] K N I R L (sz + 1) 1 6 := by
      refine wm_astore_n C (by decide) dL_at_12 ?_
      refine wm_iconst C 1 dL_at_13 ?_ (by decide)
      exact wm_iret C B.returns rfl (by omega) (by omega) ⟨rfl, rfl, rfl, rfl, Or.inl ⟨hra, rfl, rfl, rfl⟩⟩ dL_at_14
    have hold : ∀ q, q < sz → U'.heap[q]? = s.heap[q]? := fun q hq => by
      rw [z3 q hq]
      show T.heap[q]? = _
      rw [hT]
    have hWd' : Wd G (AM K sz) s K N I R L (sz + 1) U'.heap [] := by
      refine ⟨z2, fun a e' he => (hP a e' he).kept (hold a ?_), ⟨by omega, fun q q1 _ => hold q (by omega), fun q hq => by cases hq⟩, fun a ha => ⟨Or.inl ha, Nat.lt_succ_of_lt (hB a ha)⟩⟩
      have := (hP a e' he).lt
      omega
    obtain ⟨t2, a1, b1⟩ := key U'.heap [] ls hWd' hl2 (la_cat _ 0 hcat) (U'.setVm vm') rfl X''
    refine ⟨t2, stp _ ?_, b1⟩
    rw [push_eq X']
    refine stp2 _ ?_
    rw [x3]
    exact a1
end ATL
