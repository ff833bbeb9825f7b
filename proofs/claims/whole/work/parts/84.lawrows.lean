/-! rows of the law: the script, the call of its own at, what holds between two calls -/
theorem wAt_link : Cond.methodLink RL 59 yL_at ∈ gw := gw_of (w := Cond.methodLink RL 59 yL_at) (by decide +kernel) (by decide +kernel)
theorem wAt_static : Cond.static yL_at ∈ gw := gw_of (w := Cond.static yL_at) (by decide +kernel) (by decide +kernel)
theorem wAt_init : Cond.initialized RL ∈ gw := gw_of (w := Cond.initialized RL) (by decide +kernel) (by decide +kernel)
theorem wAt_code : Cond.codeWith yL_at cL_at 4 (some .int) hhL ∈ gw := gw_of (w := Cond.codeWith yL_at cL_at 4 (some .int) hhL) (by decide +kernel) (by decide +kernel)
section SW
variable {p : Program} {l : Launch} {e : Env} {R : Room} {s : State} {m : MethodId} {args : Array Value} {below : List Frame} {meth : Method} {c : Code} {T : State} {locs : List Loc} {cells slots : Nat}
theorem callSW (X : Stand p l e R s m args below meth c T locs cells slots) (hexec : p.tables.exec = Jvm.exec) {own : String} {index : Nat} {y : MethodName} {bytes : ByteArray} {maxL : Nat} {ret : Option FieldType} {hh : List (Nat × Nat × Nat × Nat)}
    (hown : s.vm.findClass own = some m.cls) (hlink : (Cond.methodLink own index y).before args s = true) (hstat : (Cond.static y).before args s = true) (hinit : (Cond.initialized y.cls).before args s = true)
    (hcode : (Cond.codeWith y bytes maxL ret hh).before args s = true) (hy : y.cls ≠ "java/lang/invoke/MethodHandle" ∧ y.cls ≠ "java/lang/invoke/VarHandle")
    {W : Nat} {Pre : Pt → Array Value → Prop} {Post : Pt → Array Value → Option Value → Pt → Prop} (hK : Back l R p e below s args y 3 W Pre Post)
    {g : JFrame} (hg : g.method = m) (hsize : g.locals.size = c.maxLocals) {argsL rest : List Value} (hlen : ∀ sig, parseMethodDescriptor y.desc = some sig → argsL.length = sig.parameters.length)
    (hstack : g.stack = argsL.reverse ++ rest) (hW : 2 * g.monitorRoom + (rest.map fun v => v.category).sum ≤ W) (hdg : decode c.code g.pc = .ok (.invokestatic index, 3))
    (hpre : ∀ vm₁, s.WarmedH vm₁ → Pre ⟨T.setVm vm₁, locs, cells, slots⟩ argsL.toArray) :
    ∃ (v : Option Value) (vm₁ : Vm) (B : Pt), s.WarmedH vm₁ ∧ Stand p l e R s m args below meth c B.U B.locs B.cells B.slots ∧ Post ⟨T.setVm vm₁, locs, cells, slots⟩ argsL.toArray v B ∧
      ∀ target, Steps p.tables e below (B.U.setTop { g with pc := g.pc + 3, stack := v.toList ++ rest }) target → Steps p.tables e below (T.setTop g) target := by
  obtain ⟨mk, methM, cM, hnamed, hmethM, -, -, -, -, -, -, hsigM⟩ := Cond.codeWith_spec hcode
  have hstatic : methM.isStatic = true := Cond.static_spec hnamed hmethM hstat
  obtain ⟨kP, hkP, -⟩ := className_of_methodNamed hnamed
  have hinitP : kP.init = .initialized := Cond.initialized_spec (findClass_of_methodNamed hnamed) hkP hinit
  obtain ⟨vm₁, X₁, hstep₁⟩ := X.invokestatic hexec hown hlink hnamed hmethM hstatic hkP hinitP hy (g := g) hg (argsL := argsL) (rest := rest) (hlen _ hsigM) hstack hdg
  obtain ⟨v, B, X', hpost, hsteps⟩ := hK m meth c ⟨T.setVm vm₁, locs, cells, slots⟩ { g with stack := rest } (.invokestatic index) mk argsL.toArray X₁ hg hsize hdg hW (X₁.named hnamed) (hpre vm₁ X₁.warmed)
  exact ⟨v, vm₁, B, X₁.warmed, X', hpost, fun target h => hstep₁ _ fun acts => by rw [doInvoke_state]; exact hsteps.trans h⟩
end SW
section LROWS
variable {p : Program} {l : Launch} {e : Env} {Rm : Room} {s : State} {m : MethodId} {args : Array Value} {below : List Frame} {meth : Method} {c : Code} {Q : State → Prop} {A : Nat → Prop} {G : Gx} {nL pc : Nat} {cc : ByteArray} {lv : List (Nat × Value)} {st : List Value} {K N : TK} {I : TI} {R : TR} {L : TL} {sz cells slots : Nat}
theorem wm_callAt (C : Cx p s m args meth c A G RL cc nL) (hA : ∀ q, A q → s.heap.size ≤ q) (hTW : TW s) {o w : Nat} {i : Int32} {res : List It} (hst : l.stackTraces = false) (hF : AtF K N R o) (hr : RowIs I (o + 12) res) (hw : K w = 22 ∧ N w = 1) (hroom : 10 ≤ Rm.frames ∧ 400 ≤ Rm.locals) (hcat : (st.map fun v => v.category).sum ≤ 8) (hf : cells + 1 ≤ Rm.cells ∧ slots + 6 ≤ Rm.slots) (hdg : decode cc pc = .ok (.invokestatic 59, 3))
    (kk : ∀ (v : Option Value) (K' N' : TK) (I' : TI) (R' : TR) (L' : TL) (sz' : Nat), PhL K N I R L sz res i w v K' N' I' R' L' sz' → Wm p l e Rm s m args below meth c Q A G nL (pc + 3) lv (v.toList ++ st) K' N' I' R' L' sz' (cells + 1) (slots + 6)) : Wm p l e Rm s m args below meth c Q A G nL pc lv (.ref w :: .int i :: .ref o :: st) K N I R L sz cells slots := by
  refine wm_ran C (a := ([Value.ref o, .int i, .ref w] : List Value).toArray) (mc := 1) (ms := 6) (fun H locs ls hW hl => ?_) kk
  have hts := C.2.2.2.2.1
  have hM := tL_at (l := l) (G := G) (d := 0) (K := K) (N := N) (I := I) (R := R) (L := L) (sz := sz) (o := o) (w := w) (res := res) (i := i) hst hF hr hw
  have hws : ∀ w' ∈ tsL, ∀ (a' : Array Value) (U : State), s.WarmedH U.vm → w'.before a' U = true := fun w' hw' a' U hU => by
    have hg : w' ∈ gw := by
      rcases List.mem_cons.mp hw' with rfl | h
      · exact wAt_code
      · exact h
    exact word_at hU (good_of_word (gw_good hg)) (hts w' hg)
  have hblind : FrameBlind (fun a U => PrM G [.ref o, .int i, .ref w] K N I R L sz a U ∧ TW U) := fun a U g mk q => ⟨PrM.blind _ _ _ _ q.1, q.2.mv (State.WarmedH.refl U) (fun _ _ h _ => h)⟩
  have hK : Back l Rm p e below s args yL_at 3 8 (PreOf Rm 1 6 (fun a U => PrM G [.ref o, .int i, .ref w] K N I R L sz a U ∧ TW U)) (PostOf (PoM G K sz (PhL K N I R L sz res i w)) 1 6 (AM K sz)) :=
    va_backW (hh := hhL) (bytes := cL_at) (maxL := 4) (ret := some .int) hM hblind rfl rfl hroom.1 (by show 8 + (4 + 11) + 40 * 9 ≤ Rm.locals; have := hroom.2; omega) hws List.mem_cons_self (fun a' U hU => word_at hU (good_of_word (gw_good wAt_init)) (hts _ wAt_init))
  intro T hT X
  obtain ⟨v, vm₁, ⟨U', l2, c2, s2⟩, hW₁, X', ⟨g', mk, t, Lc, e1, e2, hq, h1, hL, h2, h3⟩, stp⟩ := callSW X C.1 (own := RL) (index := 59) (y := yL_at) (bytes := cL_at) (maxL := 4) (ret := some .int) (hh := hhL) C.2.2.2.1 (hts _ wAt_link) (hts _ wAt_static) (hts _ wAt_init) (hts _ wAt_code) ⟨by decide +kernel, by decide +kernel⟩ hK (g := F0 m pc ls (.ref w :: .int i :: .ref o :: st)) rfl (by rw [C.2.2.1]; exact hl.1) (argsL := [.ref o, .int i, .ref w]) (rest := st) (fun sig h => by
      have hs : (parseMethodDescriptor yL_at.desc).map (fun d => d.parameters.length) = some 3 := by decide +kernel
      rw [h] at hs
      simpa using hs.symm) rfl (lv_room hcat) (by rw [C.2.1]; exact hdg)
    (fun vm₁ hW₁ => ⟨hf.1, hf.2, PrM.at C hW [.ref o, .int i, .ref w] (T.setVm vm₁) hT hW₁, hTW.mv hW₁ (fun a cl h _ => by
      show T.heap[a]? = some cl
      have ha := (Array.getElem?_eq_some_iff.mp h).1
      rw [hT, hW.2.2.1.2.1 a ha (fun z => by have := hA a z; omega)]
      exact h)⟩)
  dsimp only [Pt.U, Pt.locs, Pt.cells, Pt.slots] at X' e1 e2 h1 h2 h3 stp
  subst h1; subst h2; subst h3
  exact ⟨v, (T.setVm vm₁).calling g' mk ([Value.ref o, .int i, .ref w] : List Value).toArray, t, U', Lc, hT, X', hL, e1, e2, hq, stp⟩
/-- the script's length -/
theorem wm_slen (C : Cx p s m args meth c A G RL cc nL) (hA : ∀ q, A q → s.heap.size ≤ q) {b Len : Nat} {xs : Nat → Int32} (hX : va_X b Len xs s s.heap) (hbl : b < s.heap.size) (hdg : decode cc pc = .ok (.arraylength, 1)) (k : Wm p l e Rm s m args below meth c Q A G nL (pc + 1) lv (.int (nI Len) :: st) K N I R L sz cells slots) : Wm p l e Rm s m args below meth c Q A G nL pc lv (.ref b :: st) K N I R L sz cells slots :=
  fun H locs ls hW hl hc => va_slen C.1 C.2.1 hX hbl (fun z => by have := hA b z; omega) hW.2.2.1 hdg (k H locs ls hW hl hc)
theorem wm_sld (C : Cx p s m args meth c A G RL cc nL) (hA : ∀ q, A q → s.heap.size ≤ q) {b Len : Nat} {xs : Nat → Int32} (hX : va_X b Len xs s s.heap) (hbl : b < s.heap.size) {i : Nat} (hi : i < Len) (hL : Len ≤ 2048) (hdg : decode cc pc = .ok (.iaload, 1)) (k : Wm p l e Rm s m args below meth c Q A G nL (pc + 1) lv (.int (xs i) :: st) K N I R L sz cells slots) : Wm p l e Rm s m args below meth c Q A G nL pc lv (.int (nI i) :: .ref b :: st) K N I R L sz cells slots :=
  fun H locs ls hW hl hc => va_sld C.1 C.2.1 hX hbl (fun z => by have := hA b z; omega) hW.2.2.1 (vp_in_nI hi (by omega)) hdg (by rw [nI_clamp (by omega)]; exact k H locs ls hW hl hc)
/-- script[i + k] -/
theorem wm_ld (C : Cx p s m args meth c A G RL cc nL) (hA : ∀ q, A q → s.heap.size ≤ q) {b Len : Nat} {xs : Nat → Int32} (hX : va_X b Len xs s s.heap) (hbl : b < s.heap.size) (hL : Len ≤ 2048) {i : Nat} (k : Nat) (hi : i + k < Len) (h0 : lget lv 0 = some (.ref b)) (h4 : lget lv 4 = some (.int (nI i))) {kz : Int} (hkz : Int32.ofInt kz = nI k) (d0 : decode cc pc = .ok (.aload_n 0, 1)) (d1 : decode cc (pc + 1) = .ok (.iload 4, 2)) (d3 : decode cc (pc + 3) = .ok (.iconst kz, 1)) (d4 : decode cc (pc + 4) = .ok (.iadd, 1)) (d5 : decode cc (pc + 5) = .ok (.iaload, 1))
    (kk : Wm p l e Rm s m args below meth c Q A G nL (pc + 6) lv (.int (xs (i + k)) :: st) K N I R L sz cells slots) : Wm p l e Rm s m args below meth c Q A G nL pc lv st K N I R L sz cells slots := by
  refine wm_aload_n C h0 d0 ?_
  refine wm_iload C h4 d1 ?_
  refine wm_iconst C (nI k) d3 ?_ hkz
  refine wm_iadd C d4 ?_
  rw [nI_add]
  exact wm_sld C hA hX hbl hi hL d5 kk
end LROWS
/-- what holds between two calls of the law -/
def Inv (K N : TK) (I : TI) (R : TR) (sz o : Nat) (D : Dt) (res : List It) (ring : List Int32) (cp mt : Int32) : Prop := ∃ tx sa pa : Nat → Nat, ClsRep K N I R o sz tx sa pa D ∧ ClsRun I o res ring cp mt ∧ RefF K N R (o + 29) ∧ RefD I (o + 29) D ∧ RefRun I (o + 29) res ring cp mt ∧ WfD D ∧ K (o + 54) = 22 ∧ N (o + 54) = 1
theorem RefD.keep {I I' : TI} {o : Nat} {D : Dt} (h : RefD I (o + 29) D) (hk : keepO I I' o) : RefD I' (o + 29) D := h.mv (by rw [hk _ (by omega) (by omega)]) (by rw [hk _ (by omega) (by omega)]) (by rw [hk _ (by omega) (by omega)]) (fun c q1 q2 => hk _ (by omega) (by omega))
theorem RefRun.keep {I I' : TI} {o : Nat} {res : List It} {ring : List Int32} {cp mt : Int32} (h : RefRun I (o + 29) res ring cp mt) (hk : keepO I I' o) : RefRun I' (o + 29) res ring cp mt := h.mv (fun k q1 q2 => by rw [hk _ (by omega) (by omega)]) (fun c q1 q2 => hk _ (by omega) (by omega))
theorem ClsRep.offRef {K N : TK} {I I' : TI} {R : TR} {o sz : Nat} {tx sa pa : Nat → Nat} {D : Dt} (h : ClsRep K N I R o sz tx sa pa D) (hr : offRef I I' (o + 29)) : ClsRep K N I' R o sz tx sa pa D := by
  have a6 := h.2.2.2.2.2
  refine h.keepI (by rw [hr _ (by omega)]) (by rw [hr _ (by omega)]) (by rw [hr _ (by omega)]) (fun t ht => ?_) (fun s hs => ?_) (fun p hp k hk => ?_)
  · have := (a6.tx_lo ht).2
    exact ⟨hr _ (by omega), hr _ (by omega)⟩
  · have := a6.s_lo hs
    exact hr _ (by omega)
  · have := a6.p_lo hp
    exact hr _ (by omega)
theorem ClsRun.offRef {I I' : TI} {o : Nat} {res : List It} {ring : List Int32} {cp mt : Int32} (h : ClsRun I o res ring cp mt) (hr : offRef I I' (o + 29)) : ClsRun I' o res ring cp mt := h.off (fun a q1 q2 => hr a (by omega))
theorem RefF.keepA {K N K' N' : TK} {I I' : TI} {R R' : TR} {o : Nat} (h : RefF K N R (o + 29)) (hk : keepA K N I R K' N' I' R' o) : RefF K' N' R' (o + 29) := by
  refine ⟨by rw [(hk _ (by omega) (by omega)).1]; exact h.1, fun c h1 h2 => ?_⟩
  obtain ⟨a, b, d⟩ := h.2 c h1 h2
  rw [(hk (o + 29) (by omega) (by omega)).2.2.2, (hk (o + 29 + c) (by omega) (by omega)).1, (hk (o + 29 + c) (by omega) (by omega)).2.1]
  exact ⟨a, b, d⟩
theorem keepA.o {K N K' N' : TK} {I I' : TI} {R R' : TR} {o : Nat} (hk : keepA K N I R K' N' I' R' o) : keepO I I' o := fun a q1 q2 => (hk a q1 q2).2.2.1
theorem Inv.nt {K N : TK} {I : TI} {R : TR} {sz o : Nat} {D : Dt} {res : List It} {ring : List Int32} {cp mt : Int32} (h : Inv K N I R sz o D res ring cp mt) : D.1.length ≤ 12 := by
  obtain ⟨tx, sa, pa, h1, -⟩ := h
  exact h1.2.1.2.2.2.1
