/-! what a throw of ArrayIndexOutOfBoundsException asks of a state -/
def xAI : String := "java/lang/ArrayIndexOutOfBoundsException"
def xUp : List String := ["java/lang/IndexOutOfBoundsException", "java/lang/RuntimeException", "java/lang/Exception"]
def oA : List Cond := Jvm.Bundle.ownAtoms0 RX5 143 xAI xUp
def TW (U : State) : Prop := ∀ w ∈ oA, ∀ a : Array Value, w.before a U = true
def tS1 : Cond := .laysStatic "java/lang/Throwable" "UNASSIGNED_STACK" "[Ljava/lang/StackTraceElement;"
def tS2 : Cond := .laysStatic "java/lang/Throwable" "SUPPRESSED_SENTINEL" "Ljava/util/List;"
def tR1 : Cond := .isRef (.static "java/lang/Throwable" "UNASSIGNED_STACK" "[Ljava/lang/StackTraceElement;")
def tR2 : Cond := .isRef (.static "java/lang/Throwable" "SUPPRESSED_SENTINEL" "Ljava/util/List;")
theorem oA_split : ∀ w ∈ oA, (w.onTables && w.keepsFace) = true ∨ (w.onTables && w.keepsCast) = true ∨ w = tS1 ∨ w = tS2 ∨ w = tR1 ∨ w = tR2 := by decide +kernel
theorem tS_in : tS1 ∈ oA ∧ tS2 ∈ oA ∧ tR1 ∈ oA ∧ tR2 ∈ oA := by decide +kernel
theorem oA_tbl : ∀ w ∈ oA, w = tR1 ∨ w = tR2 ∨ w ∈ lw_tbl := by decide +kernel
/-- static cells stay -/
def keepSt (s U : State) : Prop := ∀ (a : Nat) (cell : Cell), s.heap[a]? = some cell → cell.vm.isStatics = true → U.heap[a]? = some cell
theorem cast_mv {s U : State} {a a' : Array Value} (hW : s.WarmedH U.vm) {c : Cond} (hc : (c.onTables && c.keepsCast) = true) (h : c.before a s = true) : c.before a' U = true := by
  simp only [Bool.and_eq_true] at hc
  have h1 : c.before a' (U.setVm U.vm) = true := by
    rw [Cond.onTables_vm (A' := a) (U' := s) U.vm c hc.1]
    exact Cond.before_shiftedCast (State.Shifted.of_warmed hW) c hc.2 h
  rwa [State.setVm_self] at h1
theorem face_mv {s U : State} {a a' : Array Value} (hW : s.WarmedH U.vm) {c : Cond} (hc : (c.onTables && c.keepsFace) = true) (h : c.before a s = true) : c.before a' U = true := by
  obtain ⟨h1, h2⟩ := Bool.and_eq_true_iff.mp hc
  have h3 : c.before a s = true → c.before a (s.setVm U.vm) = true := Cond.before_shiftedFace (State.Shifted.of_warmed hW) c h2
  rw [← State.setVm_self U, Cond.onTables_vm (A' := a) (U' := s) U.vm c h1]
  exact h3 h
theorem ls_mv {s U : State} {a a' : Array Value} {C f d : String} (hW : s.WarmedH U.vm) (hk : keepSt s U) (h : (Cond.laysStatic C f d).before a s = true) : (Cond.laysStatic C f d).before a' U = true := by
  obtain ⟨c, k, i, fd, ad, cell, hc, hf, hst, hsta, hcell, hiss, hcls, hlt, hty⟩ := Cond.laysStatic_spec h
  obtain ⟨k2, hk2, he⟩ := State.fieldFound?_setVm hW.alike hf
  exact Cond.laysStatic_of (by rw [hW.alike.findClass]; exact hc) hk2 hst (by rw [he]; exact hsta) (hk ad cell hcell hiss) hiss hcls hlt (by rw [he]; exact hty)
theorem rs_mv {s U : State} {a a' : Array Value} {C f d : String} (hW : s.WarmedH U.vm) (hk : keepSt s U) (hl : (Cond.laysStatic C f d).before a s = true) (h : (Cond.isRef (.static C f d)).before a s = true) : (Cond.isRef (.static C f d)).before a' U = true := by
  obtain ⟨c, k, i, fd, ad, cell, hc, hf, hst, hsta, hcell, hiss, hcls, hlt, hty⟩ := Cond.laysStatic_spec hl
  obtain ⟨u, hu⟩ := Cond.staticRefV hf hst hsta hcell hiss h
  obtain ⟨k2, hk2, he⟩ := State.fieldFound?_setVm hW.alike hf
  have hsta2 : k2.statics = some ad := by rw [he]; exact hsta
  have hev : (Term.static C f d).eval a' U none [] U = cell.slots[fd.slot]? := by
    have hk2' : U.fieldFound? C f d = some (c, k2, i, fd) := hk2
    simp [Term.eval, State.fieldNamed?, hk2', hst, hsta2, hk ad cell hcell hiss, hiss]
  obtain ⟨v, hv⟩ := u
  cases v with
  | null => simp only [Cond.before, Cond.holds, Cond.value, hev, hu]; simp
  | ref x => simp only [Cond.before, Cond.holds, Cond.value, hev, hu]; simp
  | _ => simp [Value.isRef] at hv
theorem TW.mv {s U : State} (h : TW s) (hW : s.WarmedH U.vm) (hk : keepSt s U) : TW U := fun w hw a => by
  rcases oA_split w hw with q | q | q | q | q | q
  · exact face_mv hW q (h w hw a)
  · exact cast_mv hW q (h w hw a)
  · subst q; exact ls_mv hW hk (h _ hw a)
  · subst q; exact ls_mv hW hk (h _ hw a)
  · subst q; exact rs_mv hW hk (h _ tS_in.1 a) (h _ hw a)
  · subst q; exact rs_mv hW hk (h _ tS_in.2.1 a) (h _ hw a)
