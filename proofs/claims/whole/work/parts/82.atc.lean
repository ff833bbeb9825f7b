/-! CopyReplace.at: its answer, its throw -/
theorem wAI_link : Cond.classLink RX5 141 xAI ∈ gw := gw_of (w := Cond.classLink RX5 141 xAI) (by decide +kernel) (by decide +kernel)
theorem wAI_ins : Cond.instantiable xAI 6 ∈ gw := gw_of (w := Cond.instantiable xAI 6) (by decide +kernel) (by decide +kernel)
theorem wAI_ini : Cond.initialized xAI ∈ gw := gw_of (w := Cond.initialized xAI) (by decide +kernel) (by decide +kernel)
/-- the object and its result row -/
def AtF (K N : TK) (R : TR) (o : Nat) : Prop := K o = 16 ∧ R o 8 = some (o + 12) ∧ rowP K N R (o + 12)
section ATC
variable {l : Launch} {G : Gx} {d : Nat} {K N : TK} {I : TI} {R : TR} {L : TL} {sz o : Nat} {res : List It}
theorem tX5_at {i : Int32} {x : It} (hF : AtF K N R o) (hr : RowIs I (o + 12) res) (hx : rAt res i = some x) : MtI l G yX5_at cX5_at 2 (some .int) (d + 2) [.ref o, .int i] K N I R L sz (fun v I' => v = x.1 ∧ I' = I) := by
  have hb : hasB res.length i = true := by
    unfold rAt at hx
    split at hx
    · assumption
    · cases hx
  have hg : res[i.toNatClampNeg]? = some x := by
    unfold rAt at hx
    rw [if_pos hb] at hx; exact hx
  have h3 := hr.2.1
  obtain ⟨j, hj, rfl⟩ := hasB_spec (by omega) hb
  rw [nI_clamp (by omega)] at hg
  refine MetM.of (own := RX5) (by decide) rfl (catR (catI cat0)) (Nat.le_of_ble_eq_true rfl) (fun p e s m args below meth c C hret hnm => ?_)
  refine wm_aload_n C rfl dX5_at_0 ?_
  refine wm_getR C fqX5_37 hF.1 hF.2.1 dX5_at_1 ?_
  refine wm_iload_n C rfl dX5_at_4 ?_
  refine wm_cVI1 (d := d + 1) C vqX5_138 (tX1_has hF.2.2.1 hr.1) hF.2.2.1 ⟨Nat.le_refl _, Nat.le_refl _⟩ (Nat.le_of_ble_eq_true rfl) ⟨Nat.le_of_ble_eq_true rfl, Nat.le_of_ble_eq_true rfl⟩ dX5_at_5 (fun r7 I8 h8 => ?_)
  obtain ⟨rfl, rfl⟩ := h8
  refine wm_if_ne C 19 dX5_at_8 (by decide) (fun q => ?_) (fun q => absurd q (by rw [hb]; decide))
  refine wm_aload_n C rfl dX5_at_19 ?_
  refine wm_getR C fqX5_37 hF.1 hF.2.1 dX5_at_20 ?_
  refine wm_iload_n C rfl dX5_at_23 ?_
  refine wm_cVI1 (d := d + 1) C vqX5_144 (tX1_code hF.2.2 hr hg) hF.2.2.1 ⟨Nat.le_refl _, Nat.le_refl _⟩ (Nat.le_of_ble_eq_true rfl) ⟨Nat.le_of_ble_eq_true rfl, Nat.le_of_ble_eq_true rfl⟩ dX5_at_24 (fun r9 I9 h9 => ?_)
  obtain ⟨rfl, rfl⟩ := h9
  exact wm_iret C hret rfl (Nat.le_of_ble_eq_true rfl) (Nat.le_of_ble_eq_true rfl) ⟨rfl, rfl, rfl, rfl, rfl, _, rfl, rfl, rfl⟩ dX5_at_27
/-- what the throw leaves: one new cell, of its class -/
def AtQ (sz : Nat) : Array Value → State → Outcome → State → Prop := fun _ st oc t => oc = .threw sz ∧ (st.WarmedH t.vm ∧ st.sameButNew ({ t with vm := st.vm } : State) [] 1 6) ∧ (∀ q, q < sz → t.heap[q]? = st.heap[q]?) ∧ t.heap.size = sz + 1 ∧ ∃ ce : Cell, t.heap[sz]? = some ce ∧ st.vm.findClass xAI = some ce.cls ∧ ce.vm = .none
theorem same_old {s U : State} {cells slots : Nat} (h : s.sameButNew U [] cells slots) : ∀ q, q < s.heap.size → U.heap[q]? = s.heap[q]? := fun q hq => by
  obtain ⟨c, hc⟩ : ∃ c, s.heap[q]? = some c := ⟨_, Array.getElem?_eq_getElem hq⟩
  obtain ⟨c', h1, h2, h3, h4⟩ := h.2.2.2.2.2 q c hc
  have hs : c'.slots = c.slots := by
    apply Array.ext_getElem?
    intro i
    exact h4 i (fun z => by cases z)
  rw [h1, hc, h2, hs]
theorem at_throws {i : Int32} {n : Nat} (hl : l.stackTraces = false) (hF : AtF K N R o) (hn : I (o + 12) 6 = nI n) (hno : hasB n i = false) : MetFree l yX5_at (headSpec (tsM yX5_at cX5_at 2 (some .int)) (rmD (d + 8) 1 6)) (fun a U => PrM G [.ref o, .int i] K N I R L sz a U ∧ TW U) (fun _ _ _ _ _ => True) (AtQ sz) := by
  refine MetFree.of_bodyS (code := cX5_at) (maxLocals := 2) (ret := some .int) (by decide) ?_ ?_
  · intro args s m h hn
    obtain ⟨meth, c, h1, h2, h3, h4, h5, h6, -, -⟩ := Cond.code_spec hn (atoms_spec (ws := tsM yX5_at cX5_at 2 (some .int)) h _ List.mem_cons_self)
    exact ⟨meth, c, h1, h2, h3, h4, h5, h6⟩
  · intro p e s m args below meth c s₁ B hml hv _
    obtain ⟨⟨rfl, hsz, hP, hKK, hB, hNW⟩, hTW⟩ := hv
    have hts0 := atoms_spec (ws := tsM yX5_at cX5_at 2 (some .int)) B.pre
    have hcodeV := hts0 _ List.mem_cons_self
    have hts : ∀ w ∈ gw, w.before ([Value.ref o, .int i] : List Value).toArray s = true := fun w hw => hts0 w (List.mem_cons_of_mem _ hw)
    have hown : s.vm.findClass RX5 = some m.cls := findClass_of_methodNamed B.named
    have hx := B.exec
    have hb := B.bytes
    have C : Cx p s m ([Value.ref o, .int i] : List Value).toArray meth c (AM K sz) G RX5 cX5_at 2 := ⟨hx, hb, hml, hown, hts, hKK, fun q h => Or.inr (by omega), B.notSynchronized, hNW⟩
    have hWd : Wd G (AM K sz) s K N I R L sz s.heap [] := ⟨hsz, hP, va_S.rf, fun a h => ⟨Or.inl h, hB a h⟩⟩
    have X₀ := Stand.of_body B
    have hh0 : s₁.heap = s.heap := by rw [B.state]; rfl
    have hl2 := lv_entry [Value.ref o, .int i] (n := 2) (Nat.le_of_ble_eq_true rfl)
    rw [la_eq [Value.ref o, .int i] 0 (catR (catI cat0))] at hl2
    have key : W p l e (rmD (d + 8) 1 6) s m ([Value.ref o, .int i] : List Value).toArray below meth c s.heap [] 0 0 (fun t => ∃ oc, t.status = .running ∧ Ended t below oc ∧ AtQ sz ([Value.ref o, .int i] : List Value).toArray s oc t) (entryFrame m ([Value.ref o, .int i] : List Value).toArray 2) := by
      rw [lg_entry_eq]
      generalize (lg_sl [Value.ref o, .int i] ++ List.replicate (2 - (lg_sl [Value.ref o, .int i]).length) Slot.unset).toArray = ls at hl2 ⊢
      refine lv_aload_n hx hb dX5_at_0 rfl (hl2.2.2 _ (lget_mem (lv := la 0 [Value.ref o, .int i]) (i := 0) (v := .ref o) rfl)) ?_
      obtain ⟨h0, h1, Cn, T, nn, ty0, hcl, hin, hk, hn', hlink, hr, hty, hnm, hfin, hd, hdecl⟩ := fqX5_37
      refine va_get hx hb hts hin hown hKK (va_P1 (hP o _ (cellO_o (ci := 6) hF.1 h0 h1))) 0 rfl hcl 8 hk (hts _ hlink) (fun _ h9 => h9) (fsO_get (by decide)) dX5_at_1 ?_
      have hf : fvO I R o 6 8 = .ref (o + 12) := by rw [fvO, hr, hF.2.1]; rfl
      rw [hf]
      refine lv_iload_n hx hb dX5_at_4 rfl (hl2.2.2 _ (lget_mem (lv := la 0 [Value.ref o, .int i]) (i := 1) (v := .int i) rfl)) ?_
      have rest : ∀ locs : List Loc, (∀ q ∈ locs, False) → W p l e (rmD (d + 8) 1 6) s m ([Value.ref o, .int i] : List Value).toArray below meth c s.heap locs 0 0 (fun t => ∃ oc, t.status = .running ∧ Ended t below oc ∧ AtQ sz ([Value.ref o, .int i] : List Value).toArray s oc t) (F0 m 8 ls [.int 0]) := fun locs hlocs => by
        have hnil : locs = [] := List.eq_nil_iff_forall_not_mem.mpr hlocs
        subst hnil
        refine lv_if_ne hx hb dX5_at_8 (tgt := 19) (by decide) (fun q => absurd rfl q) (fun _ => ?_)
        intro T hT X
        have htr : e.platform.stackTraces = false := by rw [Jvm.Example.NoTraceControls.admits_follows X.admits]; exact hl
        obtain ⟨vm₁, cX, kX, hfX, hkX, -, -, X₁, st1⟩ := X.newCold hx (own := RX5) (C := xAI) (index := 141) (n := 6) hown (hts _ wAI_link) (hts _ wAI_ins) (hts _ wAI_ini) (g := F0 m 11 ls []) rfl (by rw [hb]; exact dX5_at_11) (by show 0 + 1 ≤ 1; omega) (by show 0 + 6 ≤ 6; omega)
        generalize hT1 : (T.setVm vm₁).pushCell { cls := cX, slots := kX.instanceTypes.map defaultValue, vm := .none } = T1 at X₁ st1
        have hTs : T.heap.size = sz := by rw [hT]; exact hsz
        have hcellA : T1.heap[sz]? = some (Jvm.freshCell cX kX) := by rw [← hT1, ← hTs]; exact State.heap_pushCell_size _ _
        obtain ⟨U, hsteps, hrun, hend, hW, hsame, ce, hce, Kc⟩ := X₁.ctorThrow0 hx htr (own := RX5) (cls := xAI) (names := xUp) (ic := 143) hown (by decide +kernel) (by decide +kernel) (fun y hy => hTW y hy _) (fun y hy => by cases hy) hfX hkX hcellA (by omega)
          (g := F0 m 15 ls [.ref sz, .ref sz]) rfl (by rw [hml]; exact hl2.1) rfl rfl (rest := []) rfl (by rw [hb]; exact dX5_at_15) (by rw [hb]; exact dX5_at_18) (covers_of_empty (B.noHandlers hcodeV) _) (by show 3 + 3 < d + 8; omega) (by show 2 * 0 + 1 + (13 * (3 + 1) + 41) ≤ 40 * (d + 8); omega) B.notSynchronized
        refine ⟨U, ?_, .threw sz, hrun, hend, rfl, ⟨hW, hsame⟩, ?_, ?_, ce, hce, Kc.cls, Kc.vm⟩
        · refine st1 _ ?_
          rw [hTs]
          show Steps p.tables e below (T1.setTop (F0 m 14 ls [.ref sz])) _
          jvm_step X₁.here [X₁.here.top, hx, hb, dX5_at_14, Value.category]
          exact hsteps
        · intro q hq
          exact same_old hsame q (by omega)
        · have h1 := hsame.2.2.1
          have h2 := (Array.getElem?_eq_some_iff.mp hce).1
          have h3 : ({ U with vm := s.vm } : State).heap.size ≤ s.heap.size + (0 + 1) := h1
          have h4 : ({ U with vm := s.vm } : State).heap.size = U.heap.size := rfl
          omega
      obtain ⟨⟨w1, w2, w3, w4, w5⟩, ⟨r, hr2, hr1⟩, k0, k1, y1, y2, y3, y4⟩ := vqX5_138
      have hws : ∀ w ∈ wsV RX5 138 yX1_has.cls yX1_has (tsM yX1_has cX1_has 2 (some .boolean)), w ∈ gw := fun w hw => by
        rcases List.mem_append.mp hw with h | h
        · simp only [List.mem_cons, List.mem_nil_iff, or_false] at h
          rcases h with rfl | rfl | rfl | rfl <;> assumption
        · rcases List.mem_cons.mp h with rfl | h
          · exact w5
          · exact h
      intro T hT X
      obtain ⟨cell, g1, g2, g3⟩ := va_recv hKK (va_P1 (hP (o + 12) _ (cellO_o (ci := 2) hF.2.2.1 k0 k1))) hr2 (q0 := 0) rfl
      obtain ⟨v, st₀, t, T', Lc, e0, X', hL, e1, e2, ⟨hv, hheap⟩, stp⟩ := va_runV (Ts := gw) (l := l) (mc := 0) (ms := 0) (rest := []) (As := [.int i]) (g := F0 m 5 ls [.int i, .ref (o + 12)]) ⟨hx, hb, hml, hown, hts⟩ (hasP (d := d) (G := G) (K := K) (N := N) (I := I) (R := R) (L := L) (sz := sz) hF.2.2.1 hn) (cwV 1 hts (gw_gi hws) rfl rfl rfl ⟨rfl, y1, y2, y3⟩ ⟨by show d + 1 ≤ d + 8; omega, by show 8 + (2 + 11) + 40 * d ≤ 40 * (d + 8); omega⟩) ⟨PrM.blind, ⟨cell, g1, g2, by rw [← hr1]; exact g3⟩, PrM.at C hWd (.ref (o + 12) :: [.int i])⟩ rfl rfl hl2.1 rfl (lv_room (Nat.le_of_ble_eq_true rfl)) dX5_at_5 ⟨Nat.zero_le _, Nat.zero_le _⟩ T hT X
      rw [hno] at hv
      cases hv
      obtain ⟨t2, a1, b1⟩ := rest ([] ++ Lc) (fun q hq => hL q (by simpa using hq)) T' (by rw [e1, hheap, e0]) X'
      exact ⟨t2, stp t2 a1, b1⟩
    obtain ⟨t, a1, oc, b1, b2, b3⟩ := key s₁ hh0 X₀
    exact ⟨t, oc, a1, b1, b2, b3⟩
end ATC
