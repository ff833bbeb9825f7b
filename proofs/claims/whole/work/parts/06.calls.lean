/-! contracts over the memory, calls, returns -/
abbrev PT : Type := Option Value → TK → TK → TI → TR → TL → Nat → Prop
def AM (K : TK) (sz : Nat) : Nat → Prop := fun q => K q ≠ 0 ∨ sz ≤ q
def PrM (G : Gx) (av : List Value) (K N : TK) (I : TI) (R : TR) (L : TL) (sz : Nat) : Array Value → State → Prop := fun v U => v = av.toArray ∧ U.heap.size = sz ∧ Rp G K N I R L U.heap ∧ va_K G.1 vwCl (tysG G) U ∧ (∀ a, K a ≠ 0 → a < sz) ∧ NW U
def PoM (G : Gx) (K : TK) (sz : Nat) (Φ : PT) : Array Value → State → Outcome → State → Prop := fun _ st oc t =>
  (∃ (v : Option Value) (K' N' : TK) (I' : TI) (R' : TR) (L' : TL) (sz' : Nat), oc = .returned v ∧ Φ v K' N' I' R' L' sz' ∧ t.heap.size = sz' ∧ Rp G K' N' I' R' L' t.heap ∧ va_K G.1 vwCl (tysG G) t ∧ ∀ a, K' a ≠ 0 → a < sz' ∧ AM K sz a) ∧ va_F (AM K sz) st t
def rmD (d mc ms : Nat) : Room := { frames := d, cells := mc, slots := ms, locals := 40 * d }
def tsM (y : MethodName) (cc : ByteArray) (nL : Nat) (ret : Option FieldType) : List Cond := Cond.code y cc nL ret :: gw
/-- the contract of a method: from a memory, its end's memory and answer meet Φ -/
def MetM (l : Launch) (G : Gx) (y : MethodName) (cc : ByteArray) (nL : Nat) (ret : Option FieldType) (d mc ms : Nat) (av : List Value) (K N : TK) (I : TI) (R : TR) (L : TL) (sz : Nat) (Φ : PT) : Prop :=
  Met l y (tsM y cc nL ret) (rmD d mc ms) (PrM G av K N I R L sz) (PoM G K sz Φ) mc ms (AM K sz)
def la : Nat → List Value → List (Nat × Value)
  | _, [] => []
  | i, v :: vs => (i, v) :: la (i + 1) vs
theorem la_eq : ∀ (av : List Value) (i : Nat), (∀ v ∈ av, v.category = 1) → lv_args i av = la i av
  | [], _, _ => rfl
  | v :: vs, i, h => by
    have h1 : v.category = 1 := h v List.mem_cons_self
    simp only [lv_args, la, h1]
    rw [la_eq vs _ (fun w hw => h w (List.mem_cons_of_mem _ hw))]
    rfl
theorem la_sl : ∀ (av : List Value), (∀ v ∈ av, v.category = 1) → (lg_sl av).length = av.length
  | [], _ => rfl
  | v :: vs, h => by
    have h1 : v.category = 1 := h v List.mem_cons_self
    have h2 := la_sl vs (fun w hw => h w (List.mem_cons_of_mem _ hw))
    unfold lg_sl at h2 ⊢
    rw [List.flatMap_cons, List.length_append, h2]
    simp [h1, Nat.add_comm]
theorem la_cat : ∀ (av : List Value) (i : Nat), (∀ v ∈ av, v.category = 1) → ∀ q ∈ la i av, q.2.category = 1
  | [], _, _, q, hq => by simp [la] at hq
  | v :: vs, i, h, q, hq => by
    rcases List.mem_cons.mp hq with h1 | h1
    · rw [h1]; exact h v List.mem_cons_self
    · exact la_cat vs _ (fun w hw => h w (List.mem_cons_of_mem _ hw)) q h1
theorem MetM.of {l : Launch} {G : Gx} {y : MethodName} {cc : ByteArray} {nL : Nat} {ret : Option FieldType} {d mc ms : Nat} {av : List Value} {K N : TK} {I : TI} {R : TR} {L : TL} {sz : Nat} {Φ : PT} {own : String} (hy : plainName y.cls = true) (hown : y.cls = own) (hcat : ∀ v ∈ av, v.category = 1) (hlen : av.length ≤ nL)
    (body : ∀ (p : Program) (e : Env) (s : State) (m : MethodId) (args : Array Value) (below : List Frame) (meth : Method) (c : Code), Cx p s m args meth c (AM K sz) G own cc nL → meth.sig.returnType = ret → meth.name = y.name →
      Wm p l e (rmD d mc ms) s m args below meth c (MQ below (PoM G K sz Φ) args s mc ms (AM K sz)) (AM K sz) G nL 0 (la 0 av) [] K N I R L sz 0 0) : MetM l G y cc nL ret d mc ms av K N I R L sz Φ := by
  refine Met.ofW (cc := cc) (maxL := nL) (ret := ret) hy rfl ?_
  intro p e s m args below meth c s₁ B hml hv
  obtain ⟨rfl, hsz, hP, hK, hB, hNW⟩ := hv
  have hts := atoms_spec (ws := tsM y cc nL ret) B.pre
  have hfc : s.vm.findClass own = some m.cls := by rw [← hown]; exact findClass_of_methodNamed B.named
  have C : Cx p s m av.toArray meth c (AM K sz) G own cc nL := ⟨B.exec, B.bytes, hml, hfc, fun w hw => hts w (List.mem_cons_of_mem _ hw), hK, fun q h => Or.inr (by omega), B.notSynchronized, hNW⟩
  have hn := (name_of_methodNamed B.named B.method).1
  have hl := lv_entry av (n := nL) (by rw [la_sl av hcat]; exact hlen)
  rw [la_eq av 0 hcat] at hl
  rw [lg_entry_eq]
  exact body p e s m _ below meth c C B.returns hn s.heap [] _ ⟨hsz, hP, va_S.rf, fun a h => ⟨Or.inl h, hB a h⟩⟩ hl (la_cat av 0 hcat)
section RET
variable {p : Program} {l : Launch} {e : Env} {Rm : Room} {s : State} {m : MethodId} {args : Array Value} {below : List Frame} {meth : Method} {c : Code} {Q : State → Prop} {A : Nat → Prop} {G : Gx} {own : String} {cc : ByteArray} {nL pc : Nat} {lv : List (Nat × Value)} {st : List Value} {K N : TK} {I : TI} {R : TR} {L : TL} {sz cells slots : Nat}
  {K0 : TK} {sz0 mc ms : Nat} {Φ : PT}
theorem po_of (C : Cx p s m args meth c (AM K0 sz0) G own cc nL) {H : Heap} {locs : List Loc} {v : Option Value} (hW : Wd G (AM K0 sz0) s K N I R L sz H locs) (hΦ : Φ v K N I R L sz) (t : State) (ht : t.heap = H) (hwm : s.WarmedH t.vm) : PoM G K0 sz0 Φ args s (.returned v) t :=
  ⟨⟨v, K, N, I, R, L, sz, rfl, hΦ, by rw [ht]; exact hW.1, by rw [ht]; exact hW.2.1, va_K.moved hwm.alike C.2.2.2.2.2.1, fun a ha => ⟨(hW.2.2.2 a ha).2, (hW.2.2.2 a ha).1⟩⟩, hW.2.2.1.F ht⟩
theorem wm_iret (C : Cx p s m args meth c (AM K0 sz0) G own cc nL) {v : Int32} {ty : FieldType} (hr : meth.sig.returnType = some ty) (hn : narrow ty (.int v) = .int v) (hc : cells ≤ mc) (hs : slots ≤ ms) (hΦ : Φ (some (.int v)) K N I R L sz) (hdg : decode cc pc = .ok (.ireturn, 1)) :
    Wm p l e Rm s m args below meth c (MQ below (PoM G K0 sz0 Φ) args s mc ms (AM K0 sz0)) (AM K0 sz0) G nL pc lv [.int v] K N I R L sz cells slots := by
  intro H locs ls hW hl hcat
  refine W.widen hc hs ?_
  exact W.zret C.1 C.2.1 hr hn (po_of C hW hΦ) hW.2.2.1.2.2 hdg C.2.2.2.2.2.2.2.1
theorem wm_vret (C : Cx p s m args meth c (AM K0 sz0) G own cc nL) (hr : meth.sig.returnType = none) (hc : cells ≤ mc) (hs : slots ≤ ms) (hΦ : Φ none K N I R L sz) (hdg : decode cc pc = .ok (.return_, 1)) :
    Wm p l e Rm s m args below meth c (MQ below (PoM G K0 sz0 Φ) args s mc ms (AM K0 sz0)) (AM K0 sz0) G nL pc lv [] K N I R L sz cells slots := by
  intro H locs ls hW hl hcat
  refine W.widen hc hs ?_
  exact W.vret C.1 C.2.1 hr (po_of C hW hΦ) hW.2.2.1.2.2 hdg C.2.2.2.2.2.2.2.1
theorem wm_aret (C : Cx p s m args meth c (AM K0 sz0) G own cc nL) {r : Option Nat} {n : String} (hr : meth.sig.returnType = some (.object n)) (hc : cells ≤ mc) (hs : slots ≤ ms) (hΦ : Φ (some (va_rf r)) K N I R L sz) (hdg : decode cc pc = .ok (.areturn, 1)) :
    Wm p l e Rm s m args below meth c (MQ below (PoM G K0 sz0 Φ) args s mc ms (AM K0 sz0)) (AM K0 sz0) G nL pc lv [va_rf r] K N I R L sz cells slots := by
  intro H locs ls hW hl hcat
  refine W.widen hc hs ?_
  exact W.aret C.1 C.2.1 hr (Or.inl ⟨n, rfl⟩) (by cases r with | none => exact Or.inl rfl | some a => exact Or.inr ⟨a, rfl⟩) (po_of C hW hΦ) hW.2.2.1.2.2 hdg C.2.2.2.2.2.2.2.1
/-- a call has run: on with what it left -/
theorem wm_ran (C : Cx p s m args meth c A G own cc nL) {st0 rest : List Value} {a : Array Value} (hr : ∀ (H : Heap) (locs : List Loc) (ls : Array Slot), Wd G A s K N I R L sz H locs → lv_has ls nL lv → va_Run p l e Rm s m args below meth c H locs cells slots mc ms (F0 m pc ls st0) rest (PoM G K sz Φ a) (AM K sz))
    (kk : ∀ (v : Option Value) (K' N' : TK) (I' : TI) (R' : TR) (L' : TL) (sz' : Nat), Φ v K' N' I' R' L' sz' → Wm p l e Rm s m args below meth c Q A G nL (pc + 3) lv (v.toList ++ rest) K' N' I' R' L' sz' (cells + mc) (slots + ms)) : Wm p l e Rm s m args below meth c Q A G nL pc lv st0 K N I R L sz cells slots := by
  intro H locs ls hW hl hc T hT X
  obtain ⟨v, st₀, t, T', Lc, h0, X', hL, e1, e2, ⟨⟨v', K', N', I', R', L', sz', hv, hΦ, hz, hP, hKK, hB⟩, hF⟩, stp⟩ := hr H locs ls hW hl T hT X
  cases hv
  obtain ⟨hz0, hP0, hS, hB0⟩ := hW
  have hA := C.2.2.2.2.2.2.1
  have hfree : ∀ q, AM K sz q → A q := fun q hq => hq.elim (fun h => (hB0 q h).1) (fun h => hA q (by have := hS.1; omega))
  rw [show va_F (AM K sz) st₀ t = (st₀.heap.size ≤ t.heap.size ∧ ∀ q : Nat, q < st₀.heap.size → ¬ AM K sz q → t.heap[q]? = st₀.heap[q]?) from rfl, h0] at hF
  obtain ⟨t2, a1, b1⟩ := kk v K' N' I' R' L' sz' hΦ T'.heap (locs ++ Lc) ls ⟨by rw [e1]; exact hz, by rw [e1]; exact hP, ⟨by rw [e1]; exact Nat.le_trans hS.1 hF.1, fun q h1 h2 => by
      rw [e1, hF.2 q (Nat.lt_of_lt_of_le h1 hS.1) (fun z => h2 (hfree q z))]
      exact hS.2.1 q h1 h2, fun q hq => by
      rcases List.mem_append.mp hq with h | h
      · exact hS.2.2 q h
      · exact hfree _ (hL q h)⟩, fun a ha => ⟨hfree a (hB a ha).2, (hB a ha).1⟩⟩ hl hc T' rfl X'
  exact ⟨t2, stp t2 a1, b1⟩
theorem PrM.blind {av : List Value} : FrameBlind (PrM G av K N I R L sz) := fun a U g mk q => by
  obtain ⟨q0, q1, qP, qK, qD, qN⟩ := q
  exact ⟨q0, q1, qP, va_K.moved (u := U) (U := U.calling g mk a) (Vm.Alike.refl U.vm) qK, qD, NW.same (u := U) (U := U.calling g mk a) rfl qN⟩
theorem PrM.at (C : Cx p s m args meth c A G own cc nL) {H : Heap} {locs : List Loc} (hW : Wd G A s K N I R L sz H locs) (av : List Value) : ∀ U : State, U.heap = H → s.WarmedH U.vm → PrM G av K N I R L sz av.toArray U :=
  fun U hU hwm => ⟨rfl, by rw [hU]; exact hW.1, by rw [hU]; exact hW.2.1, va_K.moved hwm.alike C.2.2.2.2.2.1, fun a ha => (hW.2.2.2 a ha).2, NW.warm hwm C.2.2.2.2.2.2.2.2⟩
theorem gw_gi {ws : List Cond} (h : ∀ w ∈ ws, w ∈ gw) : GoodIn gw ws := fun w hw => ⟨h w hw, good_of_word (gw_good (h w hw))⟩
/-- a virtual call's words -/
def VQ (own : String) (index : Nat) (y : MethodName) (bytes : ByteArray) (maxL : Nat) (ret : Option FieldType) (ci n : Nat) : Prop :=
  (Cond.methodLink own index y ∈ gw ∧ Cond.instanceMethod y ∈ gw ∧ Cond.selects y.cls y y ∈ gw ∧ Cond.initialized y.cls ∈ gw ∧ Cond.code y bytes maxL ret ∈ gw) ∧ (∃ r, vwCl[ci]? = some r ∧ r.1 = y.cls) ∧ 0 < ci ∧ ci < 8 ∧ y.cls ≠ "java/lang/invoke/MethodHandle" ∧ y.cls ≠ "java/lang/invoke/VarHandle" ∧ (parseMethodDescriptor y.desc).map (fun d => d.parameters.length) = some n ∧ maxL ≤ 21
theorem wm_callV (C : Cx p s m args meth c A G own cc nL) {index : Nat} {y : MethodName} {bytes : ByteArray} {maxL : Nat} {ret : Option FieldType} {ci n d b : Nat} {As rest : List Value} (V : VQ own index y bytes maxL ret ci n) (hM : MetM l G y bytes maxL ret d mc ms (.ref b :: As) K N I R L sz Φ) (hb0 : K b = 10 + ci)
    (hroom : d + 1 ≤ Rm.frames ∧ 40 * (d + 1) ≤ Rm.locals) (hn : As.length = n) (hcat : (rest.map fun v => v.category).sum ≤ 8) (hf : cells + mc ≤ Rm.cells ∧ slots + ms ≤ Rm.slots) (hdg : decode cc pc = .ok (.invokevirtual index, 3))
    (kk : ∀ (v : Option Value) (K' N' : TK) (I' : TI) (R' : TR) (L' : TL) (sz' : Nat), Φ v K' N' I' R' L' sz' → Wm p l e Rm s m args below meth c Q A G nL (pc + 3) lv (v.toList ++ rest) K' N' I' R' L' sz' (cells + mc) (slots + ms)) : Wm p l e Rm s m args below meth c Q A G nL pc lv (As.reverse ++ .ref b :: rest) K N I R L sz cells slots := by
  refine wm_ran C (a := (Value.ref b :: As).toArray) (fun H locs ls hW hl => ?_) kk
  obtain ⟨⟨w1, w2, w3, w4, w5⟩, ⟨r, hr, hr1⟩, h0, h1, y1, y2, y3, y4⟩ := V
  have hws : ∀ w ∈ wsV own index y.cls y (tsM y bytes maxL ret), w ∈ gw := fun w hw => by
    rcases List.mem_append.mp hw with h | h
    · simp only [List.mem_cons, List.mem_nil_iff, or_false] at h
      rcases h with rfl | rfl | rfl | rfl <;> assumption
    · rcases List.mem_cons.mp h with rfl | h
      · exact w5
      · exact h
  refine va_runV (Ts := gw) ⟨C.1, C.2.1, C.2.2.1, C.2.2.2.1, C.2.2.2.2.1⟩ hM (cwV n C.2.2.2.2.1 (gw_gi hws) rfl rfl rfl ⟨rfl, y1, y2, y3⟩ ⟨hroom.1, by show 8 + (maxL + 11) + 40 * d ≤ _; have := hroom.2; omega⟩) ⟨PrM.blind, ?_, PrM.at C hW (.ref b :: As)⟩ rfl hn hl.1 rfl (lv_room hcat) hdg hf
  obtain ⟨cell, g1, g2, g3⟩ := va_recv C.2.2.2.2.2.1 (va_P1 (hW.2.1 b _ (cellO_o hb0 h0 h1))) hr (q0 := 0) rfl
  exact ⟨cell, g1, g2, by rw [← hr1]; exact g3⟩
/-- a static call's words -/
def SQ (own : String) (index : Nat) (y : MethodName) (bytes : ByteArray) (maxL : Nat) (ret : Option FieldType) (n : Nat) : Prop :=
  (Cond.methodLink own index y ∈ gw ∧ Cond.static y ∈ gw ∧ Cond.initialized own ∈ gw ∧ Cond.code y bytes maxL ret ∈ gw) ∧ y.cls = own ∧ y.cls ≠ "java/lang/invoke/MethodHandle" ∧ y.cls ≠ "java/lang/invoke/VarHandle" ∧ (parseMethodDescriptor y.desc).map (fun d => d.parameters.length) = some n ∧ maxL ≤ 21
theorem wm_callS (C : Cx p s m args meth c A G own cc nL) {index : Nat} {y : MethodName} {bytes : ByteArray} {maxL : Nat} {ret : Option FieldType} {n d : Nat} {As rest : List Value} (V : SQ own index y bytes maxL ret n) (hM : MetM l G y bytes maxL ret d mc ms As K N I R L sz Φ)
    (hroom : d + 1 ≤ Rm.frames ∧ 40 * (d + 1) ≤ Rm.locals) (hn : As.length = n) (hcat : (rest.map fun v => v.category).sum ≤ 8) (hf : cells + mc ≤ Rm.cells ∧ slots + ms ≤ Rm.slots) (hdg : decode cc pc = .ok (.invokestatic index, 3))
    (kk : ∀ (v : Option Value) (K' N' : TK) (I' : TI) (R' : TR) (L' : TL) (sz' : Nat), Φ v K' N' I' R' L' sz' → Wm p l e Rm s m args below meth c Q A G nL (pc + 3) lv (v.toList ++ rest) K' N' I' R' L' sz' (cells + mc) (slots + ms)) : Wm p l e Rm s m args below meth c Q A G nL pc lv (As.reverse ++ rest) K N I R L sz cells slots := by
  refine wm_ran C (a := As.toArray) (fun H locs ls hW hl => ?_) kk
  obtain ⟨⟨w1, w2, w3, w4⟩, y0, y1, y2, y3, y4⟩ := V
  have hws : ∀ w ∈ wsS own index y (tsM y bytes maxL ret), w ∈ gw := fun w hw => by
    rcases List.mem_append.mp hw with h | h
    · simp only [List.mem_cons, List.mem_nil_iff, or_false] at h
      rcases h with rfl | rfl | rfl <;> assumption
    · rcases List.mem_cons.mp h with rfl | h
      · exact w4
      · exact h
  exact va_runS (Ts := gw) ⟨C.1, C.2.1, C.2.2.1, C.2.2.2.1, C.2.2.2.2.1⟩ hM (cwS n C.2.2.2.2.1 (gw_gi hws) rfl rfl rfl ⟨y0, y1, y2, y3⟩ ⟨hroom.1, by show 8 + (maxL + 11) + 40 * d ≤ _; have := hroom.2; omega⟩) ⟨PrM.blind, PrM.at C hW As⟩ rfl hn hl.1 rfl (lv_room hcat) hdg hf
/-- a constructor's words -/
def IQ (own : String) (index : Nat) (y : MethodName) (bytes : ByteArray) (maxL n : Nat) : Prop :=
  (Cond.methodLink own index y ∈ gw ∧ Cond.instanceMethod y ∈ gw ∧ Cond.initialized y.cls ∈ gw ∧ Cond.code y bytes maxL none ∈ gw) ∧ y.name = "<init>" ∧ y.cls ≠ "java/lang/invoke/MethodHandle" ∧ y.cls ≠ "java/lang/invoke/VarHandle" ∧ (parseMethodDescriptor y.desc).map (fun d => d.parameters.length) = some n ∧ maxL ≤ 21
theorem ts_gw {y : MethodName} {bytes : ByteArray} {maxL : Nat} {ret : Option FieldType} (w : Cond.code y bytes maxL ret ∈ gw) : ∀ w ∈ tsM y bytes maxL ret, w ∈ gw := fun x hx => by
  rcases List.mem_cons.mp hx with rfl | h
  · exact w
  · exact h
theorem wm_callI (C : Cx p s m args meth c A G own cc nL) {index : Nat} {y : MethodName} {bytes : ByteArray} {maxL : Nat} {n d b : Nat} {As rest : List Value} (V : IQ own index y bytes maxL n) (hM : MetM l G y bytes maxL none d mc ms (.ref b :: As) K N I R L sz Φ)
    (hroom : d + 1 ≤ Rm.frames ∧ 40 * (d + 1) ≤ Rm.locals) (hn : As.length = n) (hcat : (rest.map fun v => v.category).sum ≤ 8) (hf : cells + mc ≤ Rm.cells ∧ slots + ms ≤ Rm.slots) (hdg : decode cc pc = .ok (.invokespecial index, 3))
    (kk : ∀ (v : Option Value) (K' N' : TK) (I' : TI) (R' : TR) (L' : TL) (sz' : Nat), Φ v K' N' I' R' L' sz' → Wm p l e Rm s m args below meth c Q A G nL (pc + 3) lv (v.toList ++ rest) K' N' I' R' L' sz' (cells + mc) (slots + ms)) : Wm p l e Rm s m args below meth c Q A G nL pc lv (As.reverse ++ .ref b :: rest) K N I R L sz cells slots := by
  refine wm_ran C (a := (Value.ref b :: As).toArray) (fun H locs ls hW hl => ?_) kk
  obtain ⟨⟨w1, w2, w3, w4⟩, y0, y1, y2, y3, y4⟩ := V
  have hts := C.2.2.2.2.1
  exact va_runI (Ts := gw) ⟨C.1, C.2.1, C.2.2.1, C.2.2.2.1, hts⟩ hM (cwI n hts (gw_gi (ts_gw w4)) rfl rfl rfl (hts _ w3) (hts _ w1) (hts _ w2) y0 ⟨y1, y2, y3⟩ ⟨hroom.1, by show 8 + (maxL + 11) + 40 * d ≤ _; have := hroom.2; omega⟩) ⟨PrM.blind, PrM.at C hW (.ref b :: As)⟩ rfl hn hl.1 rfl (lv_room hcat) hdg hf
/-- a nest mate's private constructor -/
def JQ (own : String) (index : Nat) (y : MethodName) (bytes : ByteArray) (maxL n : Nat) (host : String) : Prop :=
  (Cond.methodLinkNest own index y host ∈ nws ∧ Cond.instanceMethod y ∈ gw ∧ Cond.initialized y.cls ∈ gw ∧ Cond.code y bytes maxL none ∈ gw) ∧ y.name = "<init>" ∧ y.cls ≠ "java/lang/invoke/MethodHandle" ∧ y.cls ≠ "java/lang/invoke/VarHandle" ∧ (parseMethodDescriptor y.desc).map (fun d => d.parameters.length) = some n ∧ maxL ≤ 21
theorem wm_callJ (C : Cx p s m args meth c A G own cc nL) {index : Nat} {y : MethodName} {bytes : ByteArray} {maxL : Nat} {n d b : Nat} {host : String} {As rest : List Value} (V : JQ own index y bytes maxL n host) (hM : MetM l G y bytes maxL none d mc ms (.ref b :: As) K N I R L sz Φ)
    (hroom : d + 1 ≤ Rm.frames ∧ 40 * (d + 1) ≤ Rm.locals) (hn : As.length = n) (hcat : (rest.map fun v => v.category).sum ≤ 8) (hf : cells + mc ≤ Rm.cells ∧ slots + ms ≤ Rm.slots) (hdg : decode cc pc = .ok (.invokespecial index, 3))
    (kk : ∀ (v : Option Value) (K' N' : TK) (I' : TI) (R' : TR) (L' : TL) (sz' : Nat), Φ v K' N' I' R' L' sz' → Wm p l e Rm s m args below meth c Q A G nL (pc + 3) lv (v.toList ++ rest) K' N' I' R' L' sz' (cells + mc) (slots + ms)) : Wm p l e Rm s m args below meth c Q A G nL pc lv (As.reverse ++ .ref b :: rest) K N I R L sz cells slots := by
  refine wm_ran C (a := (Value.ref b :: As).toArray) (fun H locs ls hW hl => ?_) kk
  obtain ⟨⟨w1, w2, w3, w4⟩, y0, y1, y2, y3, y4⟩ := V
  have hts := C.2.2.2.2.1
  exact va_runIN (Ts := gw) ⟨C.1, C.2.1, C.2.2.1, C.2.2.2.1, hts⟩ hM ⟨va_cnB n hts (gw_gi (ts_gw w4)) rfl rfl rfl (C.2.2.2.2.2.2.2.2.1 _ w1) (hts _ w3) ⟨y1, y2, y3⟩ ⟨hroom.1, by show 8 + (maxL + 11) + 40 * d ≤ _; have := hroom.2; omega⟩, y0, hts _ w2⟩ ⟨PrM.blind, PrM.at C hW (.ref b :: As)⟩ rfl hn hl.1 rfl (lv_room hcat) hdg hf
/-- Object's own constructor -/
def OQ (own : String) (index : Nat) : Prop := Cond.methodLink own index Lib.objectInit ∈ gw ∧ Cond.instanceMethod Lib.objectInit ∈ gw ∧ Cond.code Lib.objectInit ⟨#[0xb1]⟩ 1 none ∈ gw
theorem wm_objInit (C : Cx p s m args meth c A G own cc nL) {index a : Nat} (V : OQ own index) (hroom : 1 ≤ Rm.frames ∧ 40 ≤ Rm.locals) (hcat : (st.map fun v => v.category).sum ≤ 8) (hdg : decode cc pc = .ok (.invokespecial index, 3))
    (kk : Wm p l e Rm s m args below meth c Q A G nL (pc + 3) lv st K N I R L sz cells slots) : Wm p l e Rm s m args below meth c Q A G nL pc lv (.ref a :: st) K N I R L sz cells slots := by
  intro H locs ls hW hl hc
  have hts := C.2.2.2.2.1
  have h8 := lv_room (m := m) (pc := pc) (ls := ls) (rest := .ref a :: st) hcat
  exact W.objInit C.1 C.2.1 C.2.2.2.1 (hts _ V.1) (hts _ V.2.1) (hts _ V.2.2) rfl (by rw [C.2.2.1]; exact hl.1) rfl hdg hroom.1 (by have := hroom.2; omega) (kk H locs ls hW hl hc)
end RET
