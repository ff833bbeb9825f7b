/-! fields, arrays, new cells, over the memory -/
def FQ (own : String) (index ci k : Nat) (r : Bool) (ty : FieldType) (fin : Bool) : Prop :=
  0 < ci ∧ ci < 8 ∧ ∃ (Cn : String) (T : u_T) (n : Nat) (ty0 : Nat → FieldType), vwCl[ci]? = some (Cn, T, n) ∧ (∀ w ∈ u_ws Cn T n, w ∈ gw) ∧ k < n ∧ n = (ft ci).length ∧ Cond.fieldLink own index (T k).1 (T k).2.1 (T k).2.2.1 ∈ gw ∧ (ft ci).getD k false = r ∧
    (∀ k, k < n → parseFieldDescriptor (T k).2.2.1 = some (ty0 k)) ∧ (∀ a, a < n → ∀ b, b < n → a ≠ b → (T a).2.1 ≠ (T b).2.1) ∧ (T k).2.2.2 = fin ∧ parseFieldDescriptor (T k).2.2.1 = some ty ∧ (T k).1 = Cn
/-- a class that 'new' makes: its place, link, slots -/
def NQ (own : String) (index ci n : Nat) : Prop :=
  0 < ci ∧ ci < 8 ∧ ∃ (Cn : String) (T : u_T) (ty0 : Nat → FieldType), vwCl[ci]? = some (Cn, T, n) ∧ (∀ w ∈ u_ws Cn T n, w ∈ gw) ∧ n = (ft ci).length ∧ (∀ k, k < n → parseFieldDescriptor (T k).2.2.1 = some (ty0 k)) ∧ Cond.classLink own index Cn ∈ gw ∧ Cond.instantiable Cn n ∈ gw ∧ Cond.initialized Cn ∈ gw ∧ ∀ j, j < n → defaultValue (ty0 j) = if (ft ci).getD j false then .null else .int 0
section HEAP
variable {p : Program} {l : Launch} {e : Env} {Rm : Room} {s : State} {m : MethodId} {args : Array Value} {below : List Frame} {meth : Method} {c : Code} {Q : State → Prop} {A : Nat → Prop} {G : Gx} {own : String} {cc : ByteArray} {nL pc : Nat} {lv : List (Nat × Value)} {st : List Value} {K N : TK} {I : TI} {R : TR} {L : TL} {sz cells slots : Nat}
theorem wm_get0 (C : Cx p s m args meth c A G own cc nL) {a ci k index : Nat} {r fin : Bool} {ty : FieldType} (F : FQ own index ci k r ty fin) (hK : K a = 10 + ci) (hdg : decode cc pc = .ok (.getfield index, 3))
    (kk : Wm p l e Rm s m args below meth c Q A G nL (pc + 3) lv (fvO I R a ci k :: st) K N I R L sz cells slots) : Wm p l e Rm s m args below meth c Q A G nL pc lv (.ref a :: st) K N I R L sz cells slots := by
  intro H locs ls hW hl hc
  obtain ⟨hx, hb, hml, hown, hts, hKK, hA, hlk⟩ := C
  obtain ⟨h0, h1, Cn, T, n, ty0, hcl, hin, hk, hn', hlink, hr, hty, hnm, hfin, hd, hdecl⟩ := F
  exact va_get hx hb hts hin hown hKK (va_P1 (hW.2.1 a _ (cellO_o hK h0 h1))) 0 rfl hcl k hk (hts _ hlink) (fun _ h9 => h9) (fsO_get (by omega)) hdg (kk H locs ls hW hl hc)
theorem wm_getI (C : Cx p s m args meth c A G own cc nL) {a ci k index : Nat} {fin : Bool} {ty : FieldType} (F : FQ own index ci k false ty fin) (hK : K a = 10 + ci) (hdg : decode cc pc = .ok (.getfield index, 3))
    (kk : Wm p l e Rm s m args below meth c Q A G nL (pc + 3) lv (.int (I a k) :: st) K N I R L sz cells slots) : Wm p l e Rm s m args below meth c Q A G nL pc lv (.ref a :: st) K N I R L sz cells slots := by
  refine wm_get0 C F hK hdg ?_
  have : fvO I R a ci k = .int (I a k) := by
    obtain ⟨h0, h1, Cn, T, n, ty0, hcl, hin, hk, hn', hlink, hr, -⟩ := F
    rw [fvO, hr]; rfl
  rw [this]; exact kk
theorem wm_getR (C : Cx p s m args meth c A G own cc nL) {a ci k index b : Nat} {fin : Bool} {ty : FieldType} (F : FQ own index ci k true ty fin) (hK : K a = 10 + ci) (hR : R a k = some b) (hdg : decode cc pc = .ok (.getfield index, 3))
    (kk : Wm p l e Rm s m args below meth c Q A G nL (pc + 3) lv (.ref b :: st) K N I R L sz cells slots) : Wm p l e Rm s m args below meth c Q A G nL pc lv (.ref a :: st) K N I R L sz cells slots := by
  refine wm_get0 C F hK hdg ?_
  have : fvO I R a ci k = .ref b := by
    obtain ⟨h0, h1, Cn, T, n, ty0, hcl, hin, hk, hn', hlink, hr, -⟩ := F
    rw [fvO, hr, hR]; rfl
  rw [this]; exact kk
theorem fvO_putI {I : TI} {R : TR} {a ci k j : Nat} {v : Int32} (hr : (ft ci).getD k false = false) (hj : j < (ft ci).length) : updV (vp_V (fsO I R a ci)) k (.int v) j = vp_V (fsO (u2 I a k v) R a ci) j := by
  rw [fsO_V hj]
  unfold updV
  by_cases h : j = k
  · subst h; rw [if_pos rfl, fvO, hr, u2_self]; rfl
  · rw [if_neg h, fsO_V hj]; simp [fvO, u2_nk _ _ h]
theorem fvO_putR {I : TI} {R : TR} {a ci k j b : Nat} (hr : (ft ci).getD k false = true) (hj : j < (ft ci).length) : updV (vp_V (fsO I R a ci)) k (.ref b) j = vp_V (fsO I (u2 R a k (some b)) a ci) j := by
  rw [fsO_V hj]
  unfold updV
  by_cases h : j = k
  · subst h; rw [if_pos rfl, fvO, hr, u2_self]; rfl
  · rw [if_neg h, fsO_V hj]; simp [fvO, u2_nk _ _ h]
theorem wm_putI (C : Cx p s m args meth c A G own cc nL) {a ci k index : Nat} {v : Int32} (F : FQ own index ci k false .int false) (hK : K a = 10 + ci) (hdg : decode cc pc = .ok (.putfield index, 3))
    (kk : Wm p l e Rm s m args below meth c Q A G nL (pc + 3) lv st K N (u2 I a k v) R L sz cells slots) : Wm p l e Rm s m args below meth c Q A G nL pc lv (.int v :: .ref a :: st) K N I R L sz cells slots := by
  intro H locs ls hW hl hc
  obtain ⟨hx, hb, hml, hown, hts, hKK, hA, hlk⟩ := C
  obtain ⟨h0, h1, Cn, T, n, ty0, hcl, hin, hk, hn', hlink, hr, hty, hnm, hfin, hd, hdecl⟩ := F
  obtain ⟨hz, hP, hS, hB⟩ := hW
  have hap := va_apart (own := own) hts hin ty0 hty hnm hKK hcl
  obtain ⟨r, h1', cell, q1, q2, q3, q4⟩ := hP a _ (cellO_o hK h0 h1)
  have hr' : r = (Cn, T, n) := Option.some.inj (h1'.symm.trans hcl)
  subst hr'
  obtain ⟨hSl, hfc, kC, hkC, hkind⟩ := hKK.1 ci _ hcl
  obtain ⟨cf, kf, fi, f, hi, hsl⟩ := hSl k hk
  have hlay := hts _ (hin _ (u_in_lay hk))
  unfold u_lay at hlay
  rw [if_neg (by rw [hfin]; decide)] at hlay
  have hst := (u_facts hfc hkC (u_lays hts hin hk) hi).1
  have h6 := u_store hfc hkC hkind hlay hi hd (v := .int v) rfl rfl
  refine W.putK hx hb (f := f) ⟨hown, hts _ hlink, ⟨_, _, _, hi⟩, hst⟩ (by rw [q2]; exact h6) q1 q3 (by rw [hsl]; exact k2_hasslot (q4 k hk)) rfl rfl hdg fun H' e1 e2 e3 => ?_
  rw [hsl] at e1 ⊢
  refine kk H' _ ls ⟨e2.trans hz, ?_, hS.put e2 e3 (hB a (by omega)).1, hB⟩ hl hc
  refine hP.step (a := a) (fun _ _ => rfl) (fun _ _ => rfl) (fun b hb => u2_ne _ _ hb) (fun _ _ => rfl) (fun _ _ => rfl) (fun b e hb _ => e3 b hb) (fun e he => ?_)
  rw [cellO_o hK h0 h1] at he
  cases he
  exact ⟨_, hcl, t_OB.to (V := updV (vp_V (fsO I R a ci)) k (.int v)) ⟨_, e1, q2, q3, t_set q4 hap hk (.int v)⟩ (fun j hj => fvO_putI hr (by rw [← hn']; exact hj))⟩
theorem wm_putF0 (C : Cx p s m args meth c A G own cc nL) {a ci k index : Nat} {v : Value} {r : Bool} {ty : FieldType} {I' : TI} {R' : TR} (F : FQ own index ci k r ty true) (hin2 : meth.name = "<init>") (ho : vwCl[ci]?.map (·.1) = some own) (hK : K a = 10 + ci) (hn : narrow ty v = v) (hfit : fits ty v = true) (hI : ∀ b, b ≠ a → I' b = I b) (hR : ∀ b, b ≠ a → R' b = R b)
    (hup : ∀ j, j < (ft ci).length → updV (vp_V (fsO I R a ci)) k v j = vp_V (fsO I' R' a ci) j) (hdg : decode cc pc = .ok (.putfield index, 3))
    (kk : Wm p l e Rm s m args below meth c Q A G nL (pc + 3) lv st K N I' R' L sz cells slots) : Wm p l e Rm s m args below meth c Q A G nL pc lv (v :: .ref a :: st) K N I R L sz cells slots := by
  intro H locs ls hW hl hc
  obtain ⟨hx, hb, hml, hown, hts, hKK, hA, hlk⟩ := C
  obtain ⟨h0, h1, Cn, T, n, ty0, hcl, hin, hk, hn', hlink, hr, hty, hnm, hfin, hd, hdecl⟩ := F
  obtain ⟨hz, hP, hS, hB⟩ := hW
  have hap := va_apart (own := own) hts hin ty0 hty hnm hKK hcl
  obtain ⟨r, h1', cell, q1, q2, q3, q4⟩ := hP a _ (cellO_o hK h0 h1)
  have hr' : r = (Cn, T, n) := Option.some.inj (h1'.symm.trans hcl)
  subst hr'
  have hCn : Cn = own := by rw [hcl] at ho; exact Option.some.inj ho
  obtain ⟨hSl, hfc, kC, hkC, hkind⟩ := hKK.1 ci _ hcl
  obtain ⟨cf, kf, fi, f, hi, hsl⟩ := hSl k hk
  have hlay := hts _ (hin _ (u_in_lay hk))
  unfold u_lay at hlay
  rw [if_pos hfin] at hlay
  have hst := (u_facts hfc hkC (u_lays hts hin hk) hi).1
  have hcf : m.cls = cf := by
    obtain ⟨_, _, c', _, _, _, -, -, hf', -, -, -, hown2, -⟩ := Cond.laysFinal_spec hlay
    have e1 : c' = cf := by have := hi.symm.trans hf'; simp at this; exact this.1.symm
    rw [hdecl, hCn] at hown2
    rw [← e1]; exact Option.some.inj (hown.symm.trans hown2)
  have h6 := u_fits hfc hkC hkind (Or.inr hlay) hi hd hn hfit
  refine W.putFinK hx hb hown (hts _ hlink) hi hst hcf hin2 (by rw [q2]; exact h6) q1 q3 (by rw [hsl]; exact k2_hasslot (q4 k hk)) rfl rfl hdg fun H' e1 e2 e3 => ?_
  rw [hsl] at e1 ⊢
  refine kk H' _ ls ⟨e2.trans hz, ?_, hS.put e2 e3 (hB a (by omega)).1, hB⟩ hl hc
  refine hP.step (a := a) (fun _ _ => rfl) (fun _ _ => rfl) hI hR (fun _ _ => rfl) (fun b e hb _ => e3 b hb) (fun e he => ?_)
  rw [cellO_o hK h0 h1] at he
  cases he
  exact ⟨_, hcl, t_OB.to (V := updV (vp_V (fsO I R a ci)) k v) ⟨_, e1, q2, q3, t_set q4 hap hk v⟩ (fun j hj => hup j (by rw [← hn']; exact hj))⟩
theorem wm_putFI (C : Cx p s m args meth c A G own cc nL) {a ci k index : Nat} {v : Int32} {ty : FieldType} (F : FQ own index ci k false ty true) (hin2 : meth.name = "<init>") (ho : vwCl[ci]?.map (·.1) = some own) (hK : K a = 10 + ci) (hn : narrow ty (.int v) = .int v) (hfit : fits ty (.int v) = true) (hdg : decode cc pc = .ok (.putfield index, 3))
    (kk : Wm p l e Rm s m args below meth c Q A G nL (pc + 3) lv st K N (u2 I a k v) R L sz cells slots) : Wm p l e Rm s m args below meth c Q A G nL pc lv (.int v :: .ref a :: st) K N I R L sz cells slots :=
  wm_putF0 C F hin2 ho hK hn hfit (fun b hb => u2_ne _ _ hb) (fun _ _ => rfl) (fun j hj => fvO_putI (by obtain ⟨-, -, Cn, T, n, ty0, -, -, -, -, -, hr, -⟩ := F; exact hr) hj) hdg kk
theorem wm_putFR (C : Cx p s m args meth c A G own cc nL) {a ci k index b : Nat} {ty : FieldType} (F : FQ own index ci k true ty true) (hin2 : meth.name = "<init>") (ho : vwCl[ci]?.map (·.1) = some own) (hK : K a = 10 + ci) (hn : narrow ty (.ref b) = .ref b) (hfit : fits ty (.ref b) = true) (hdg : decode cc pc = .ok (.putfield index, 3))
    (kk : Wm p l e Rm s m args below meth c Q A G nL (pc + 3) lv st K N I (u2 R a k (some b)) L sz cells slots) : Wm p l e Rm s m args below meth c Q A G nL pc lv (.ref b :: .ref a :: st) K N I R L sz cells slots :=
  wm_putF0 C F hin2 ho hK hn hfit (fun _ _ => rfl) (fun b hb => u2_ne _ _ hb) (fun j hj => fvO_putR (by obtain ⟨-, -, Cn, T, n, ty0, -, -, -, -, -, hr, -⟩ := F; exact hr) hj) hdg kk
theorem wm_new (C : Cx p s m args meth c A G own cc nL) {ci index n : Nat} (F : NQ own index ci n) (hcells : cells + 1 ≤ Rm.cells) (hslots : slots + n ≤ Rm.slots) (hdg : decode cc pc = .ok (.new index, 3))
    (kk : Wm p l e Rm s m args below meth c Q A G nL (pc + 3) lv (.ref sz :: st) (va_up K sz (10 + ci)) N (va_up I sz (fun _ => 0)) (va_up R sz (fun _ => none)) L (sz + 1) (cells + 1) (slots + n)) : Wm p l e Rm s m args below meth c Q A G nL pc lv st K N I R L sz cells slots := by
  intro H locs ls hW hl hc
  obtain ⟨hx, hb, hml, hown, hts, hKK, hA, hlk⟩ := C
  obtain ⟨h0, h1, Cn, T, ty0, hcl, hin, hn', hty, hlink, hins, hini, hdef⟩ := F
  obtain ⟨hz, hP, hS, hB⟩ := hW
  have hKn := hKK.1 ci _ hcl
  refine W.newcK hx hb hown (hts _ hlink) (hts _ hins) (hts _ hini) rfl hdg hcells hslots hKn.2.1 hz fun H1 kC hkC e1 z1 o1 => ?_
  refine kk H1 _ ls ⟨z1, ?_, ⟨Nat.le_trans hS.1 (by omega), fun x h1 h2 => (o1 x (by have := hS.1; omega)).trans (hS.2.1 x h1 h2), hS.2.2⟩, fun a ha => ?_⟩ hl hc
  · refine hP.step (a := sz) (fun b hb => va_up_ne _ _ hb) (fun _ _ => rfl) (fun b hb => va_up_ne _ _ hb) (fun b hb => va_up_ne _ _ hb) (fun _ _ => rfl) (fun b e hb he => o1 b (by have := (hP b e he).lt; omega)) (fun e he => ?_)
    rw [cellO_o (ci := ci) (va_up_self _ _ _) h0 h1] at he
    cases he
    refine ⟨_, hcl, (u_born ty0 hts hin hKn hkC e1 hty).to (fun j hj => ?_)⟩
    have hj' : j < (ft ci).length := by rw [← hn']; exact hj
    rw [fsO_V hj', hdef j hj]
    simp only [fvO, va_up_self]
    split <;> rfl
  · by_cases h : a = sz
    · subst h; exact ⟨hA _ (by have := hS.1; omega), Nat.lt_succ_self _⟩
    · rw [va_up_ne _ _ h] at ha
      exact ⟨(hB a ha).1, Nat.lt_succ_of_lt (hB a ha).2⟩
end HEAP
