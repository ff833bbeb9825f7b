/-! Row.has leaves the heap as it is -/
def HasQ (b : Bool) : Array Value → State → Outcome → State → Prop := fun _ st oc t => oc = .returned (some (.int (b2i b))) ∧ t.heap = st.heap
section HASP
variable {l : Launch} {G : Gx} {d : Nat} {K N : TK} {I : TI} {R : TR} {L : TL} {sz : Nat}
theorem hasP {r n : Nat} {x : Int32} (hK : K r = 12) (hn : I r 6 = nI n) : Met l yX1_has (tsM yX1_has cX1_has 2 (some .boolean)) (rmD d 0 0) (PrM G [.ref r, .int x] K N I R L sz) (HasQ (hasB n x)) 0 0 (fun _ => False) := by
  refine Met.ofW (cc := cX1_has) (maxL := 2) (ret := some .boolean) (by decide) rfl ?_
  intro p e s m args below meth c s₁ B hml hv
  obtain ⟨rfl, hsz, hP, hKK, hB, hNW⟩ := hv
  have hts0 := atoms_spec (ws := tsM yX1_has cX1_has 2 (some .boolean)) B.pre
  have hts : ∀ w ∈ gw, w.before ([Value.ref r, .int x] : List Value).toArray s = true := fun w hw => hts0 w (List.mem_cons_of_mem _ hw)
  have hown : s.vm.findClass RX1 = some m.cls := findClass_of_methodNamed B.named
  have hx := B.exec
  have hb := B.bytes
  have hl := lv_entry [Value.ref r, .int x] (n := 2) (Nat.le_of_ble_eq_true rfl)
  rw [la_eq [Value.ref r, .int x] 0 (catR (catI cat0))] at hl
  rw [lg_entry_eq]
  generalize (lg_sl [Value.ref r, .int x] ++ List.replicate (2 - (lg_sl [Value.ref r, .int x]).length) Slot.unset).toArray = ls at hl ⊢
  show W p l e (rmD d 0 0) s m ([Value.ref r, .int x] : List Value).toArray below meth c s.heap [] 0 0 (MQ below (HasQ (hasB n x)) ([Value.ref r, .int x] : List Value).toArray s 0 0 (fun _ => False)) (F0 m 0 ls [])
  have ret : ∀ (v : Int32), v = b2i (hasB n x) → W p l e (rmD d 0 0) s m ([Value.ref r, .int x] : List Value).toArray below meth c s.heap [] 0 0 (MQ below (HasQ (hasB n x)) ([Value.ref r, .int x] : List Value).toArray s 0 0 (fun _ => False)) (F0 m 17 ls [.int v]) := fun v hv =>
    W.zret hx hb B.returns (by rcases b2i_01 (hasB n x) with q | q <;> rw [hv, q] <;> rfl) (fun t ht _ => ⟨by rw [hv], ht⟩) (fun q hq => by cases hq) dX1_has_17 B.notSynchronized
  refine lv_iload_n hx hb dX1_has_0 rfl (hl.2.2 _ (lget_mem (lv := la 0 [Value.ref r, .int x]) (i := 1) (v := .int x) rfl)) ?_
  refine lv_if_lt hx hb dX1_has_1 (tgt := 16) (by decide) (fun q => ?_) (fun q => ?_)
  · refine lv_iconst hx hb dX1_has_16 (v := 0) rfl (ret 0 ?_)
    rw [b2i_f (by simp [hasB, q])]
  · refine lv_iload_n hx hb dX1_has_4 rfl (hl.2.2 _ (lget_mem (lv := la 0 [Value.ref r, .int x]) (i := 1) (v := .int x) rfl)) ?_
    refine lv_aload_n hx hb dX1_has_5 rfl (hl.2.2 _ (lget_mem (lv := la 0 [Value.ref r, .int x]) (i := 0) (v := .ref r) rfl)) ?_
    obtain ⟨h0, h1, Cn, T, nn, ty0, hcl, hin, hk, hn', hlink, hr, hty, hnm, hfin, hd, hdecl⟩ := fqX1_31
    refine va_get hx hb hts hin hown hKK (va_P1 (hP r _ (cellO_o (ci := 2) hK h0 h1))) 0 rfl hcl 6 hk (hts _ hlink) (fun _ h9 => h9) (fsO_get (by decide)) dX1_has_6 ?_
    have hf : fvO I R r 2 6 = .int (I r 6) := by rw [fvO, hr]; rfl
    rw [hf, hn]
    refine lv_icmp_ge hx hb dX1_has_9 (tgt := 16) (by decide) (fun q2 => ?_) (fun q2 => ?_)
    · refine lv_iconst hx hb dX1_has_16 (v := 0) rfl (ret 0 ?_)
      rw [b2i_f (by simp [hasB, q2])]
    · refine lv_iconst hx hb dX1_has_12 (v := 1) rfl ?_
      refine lv_goto hx hb dX1_has_13 (tgt := 17) (by decide) (ret 1 ?_)
      rw [b2i_t (by simp [hasB, q, q2])]
end HASP
