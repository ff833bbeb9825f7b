/-! THE BASE: a memory by address and place, and the kit's rows said over it -/
/-- the good words of the tables -/
def gw : List Cond := lw_tbl.filter goodWord
theorem gw_of {w : Cond} (h : w ∈ lw_tbl) (h2 : goodWord w = true) : w ∈ gw := List.mem_filter.mpr ⟨h, h2⟩
theorem gw_in {w : Cond} (h : w ∈ gw) : w ∈ lw_tbl := (List.mem_filter.mp h).1
theorem gw_good {w : Cond} (h : w ∈ gw) : goodWord w = true := (List.mem_filter.mp h).2
/-- D (class numbers and slots), array classes by tag -/
abbrev Gx : Type := va_G × (Nat → ClassId)
def tysG (G : Gx) : List (ClassId × FieldType) := [(G.2 0, .int), (G.2 1, .boolean), (G.2 2, .long), (G.2 3, .object RX0), (G.2 4, .object RX2), (G.2 5, .object RX3)]
/-- which fields are references, by the class's place in vwCl -/
def ft : Nat → List Bool
  | 1 => [false, false, true, true]
  | 2 => [true, true, true, true, true, true, false]
  | 3 => [false, false, false, false, true, false]
  | 4 => [false, false, true, true, false]
  | 5 => [true, false]
  | 6 => [true, true, true, false, false, false, true, true, true, true, false, false, false]
  | 7 => [false, false, false, false, true, true, true, true, true, true, true, true, true, true, true, true, true, true, true, true, true, true, true, true, true, true, true, false, false, false, false, false, false, true]
  | _ => []
abbrev TK : Type := Nat → Nat
abbrev TI : Type := Nat → Nat → Int32
abbrev TR : Type := Nat → Nat → Option Nat
abbrev TL : Type := Nat → Nat → Int64
def fvO (I : TI) (R : TR) (a ci k : Nat) : Value := if (ft ci).getD k false then va_rf (R a k) else .int (I a k)
def fsO (I : TI) (R : TR) (a ci : Nat) : List Value := (List.range (ft ci).length).map (fvO I R a ci)
theorem fsO_get {I : TI} {R : TR} {a ci k : Nat} (h : k < (ft ci).length) : (fsO I R a ci)[k]? = some (fvO I R a ci k) := by
  simp [fsO, h]
theorem fsO_V {I : TI} {R : TR} {a ci k : Nat} (h : k < (ft ci).length) : vp_V (fsO I R a ci) k = fvO I R a ci k := by
  simp [vp_V, List.getD_eq_getElem?_getD, fsO_get h]
theorem fsO_len {I : TI} {R : TR} {a ci : Nat} : (fsO I R a ci).length = (ft ci).length := by simp [fsO]
def cellO (G : Gx) (K N : TK) (I : TI) (R : TR) (L : TL) (a : Nat) : Option va_E :=
  if 10 < K a ∧ K a < 18 then some (.inr (K a - 10, fsO I R a (K a - 10)))
  else if K a = 20 then some (.inl (G.2 0, N a, .inl (I a)))
  else if K a = 21 then some (.inl (G.2 1, N a, .inl (I a)))
  else if K a = 22 then some (.inl (G.2 2, N a, .inr (.inl (L a))))
  else if 22 < K a ∧ K a < 26 then some (.inl (G.2 (K a - 20), N a, .inr (.inr (.inr (.inr (R a))))))
  else none
theorem cellO_o {G : Gx} {K N : TK} {I : TI} {R : TR} {L : TL} {a ci : Nat} (h : K a = 10 + ci) (h0 : 0 < ci) (h1 : ci < 8) : cellO G K N I R L a = some (.inr (ci, fsO I R a ci)) := by
  unfold cellO
  rw [if_pos (by omega), h, Nat.add_sub_cancel_left]
theorem cellO_i {G : Gx} {K N : TK} {I : TI} {R : TR} {L : TL} {a : Nat} (h : K a = 20) : cellO G K N I R L a = some (.inl (G.2 0, N a, .inl (I a))) := by simp [cellO, h]
theorem cellO_z {G : Gx} {K N : TK} {I : TI} {R : TR} {L : TL} {a : Nat} (h : K a = 21) : cellO G K N I R L a = some (.inl (G.2 1, N a, .inl (I a))) := by simp [cellO, h]
theorem cellO_l {G : Gx} {K N : TK} {I : TI} {R : TR} {L : TL} {a : Nat} (h : K a = 22) : cellO G K N I R L a = some (.inl (G.2 2, N a, .inr (.inl (L a)))) := by simp [cellO, h]
theorem cellO_q {G : Gx} {K N : TK} {I : TI} {R : TR} {L : TL} {a t : Nat} (h : K a = 20 + t) (h0 : 2 < t) (h1 : t < 6) : cellO G K N I R L a = some (.inl (G.2 t, N a, .inr (.inr (.inr (.inr (R a)))))) := by
  unfold cellO
  rw [if_neg (by omega), if_neg (by omega), if_neg (by omega), if_neg (by omega), if_pos (by omega), h, Nat.add_sub_cancel_left]
/-- the heap holds the memory -/
def Rp (G : Gx) (K N : TK) (I : TI) (R : TR) (L : TL) (H : Heap) : Prop := ∀ (a : Nat) (e : va_E), cellO G K N I R L a = some e → va_at G.1 vwCl (a, e) H
/-- one place changes -/
def u2 {α : Type} (f : Nat → Nat → α) (a k : Nat) (v : α) : Nat → Nat → α := va_up f a (va_up (f a) k v)
theorem u2_ne {α : Type} (f : Nat → Nat → α) {a k b : Nat} (v : α) (h : b ≠ a) : u2 f a k v b = f b := va_up_ne _ _ h
theorem u2_at {α : Type} (f : Nat → Nat → α) (a k : Nat) (v : α) : u2 f a k v a = va_up (f a) k v := va_up_self _ _ _
theorem u2_self {α : Type} (f : Nat → Nat → α) (a k : Nat) (v : α) : u2 f a k v a k = v := by rw [u2_at, va_up_self]
theorem u2_nk {α : Type} (f : Nat → Nat → α) {a k b j : Nat} (v : α) (h : j ≠ k) : u2 f a k v b j = f b j := by
  by_cases hb : b = a
  · subst hb; rw [u2_at, va_up_ne _ _ h]
  · rw [u2_ne _ _ hb]
theorem u2_eq {α : Type} (f : Nat → Nat → α) (a k b j : Nat) (v : α) : u2 f a k v b j = if b = a ∧ j = k then v else f b j := by
  by_cases hb : b = a
  · subst hb
    by_cases hj : j = k
    · subst hj; simp [u2_self]
    · simp [u2_nk _ _ hj, hj]
  · simp [u2_ne _ _ hb, hb]
theorem cellO_near {G : Gx} {K N K' N' : TK} {I I' : TI} {R R' : TR} {L L' : TL} {b : Nat} (h1 : K' b = K b) (h2 : N' b = N b) (h3 : I' b = I b) (h4 : R' b = R b) (h5 : L' b = L b) : cellO G K' N' I' R' L' b = cellO G K N I R L b := by
  have hf : ∀ ci, fsO I' R' b ci = fsO I R b ci := fun ci => by simp [fsO, fvO, h3, h4]
  simp only [cellO, h1, h2, h3, h4, h5, hf]
theorem Rp.step {G : Gx} {K N K' N' : TK} {I I' : TI} {R R' : TR} {L L' : TL} {H H' : Heap} {a : Nat} (h : Rp G K N I R L H) (hK : ∀ b, b ≠ a → K' b = K b) (hN : ∀ b, b ≠ a → N' b = N b) (hI : ∀ b, b ≠ a → I' b = I b) (hR : ∀ b, b ≠ a → R' b = R b) (hL : ∀ b, b ≠ a → L' b = L b)
    (ho : ∀ b e, b ≠ a → cellO G K N I R L b = some e → H'[b]? = H[b]?) (ha : ∀ e, cellO G K' N' I' R' L' a = some e → va_at G.1 vwCl (a, e) H') : Rp G K' N' I' R' L' H' := by
  intro b e hb
  by_cases hba : b = a
  · subst hba; exact ha e hb
  · rw [cellO_near (hK b hba) (hN b hba) (hI b hba) (hR b hba) (hL b hba)] at hb
    exact (h b e hb).kept (ho b e hba hb)
/-- the world at a point of a method that began at s -/
def Wd (G : Gx) (A : Nat → Prop) (s : State) (K N : TK) (I : TI) (R : TR) (L : TL) (sz : Nat) (H : Heap) (locs : List Loc) : Prop :=
  H.size = sz ∧ Rp G K N I R L H ∧ va_S A s.heap H locs ∧ ∀ a, K a ≠ 0 → A a ∧ a < sz
def Wm (p : Program) (l : Launch) (e : Env) (Rm : Room) (s : State) (m : MethodId) (args : Array Value) (below : List Frame) (meth : Method) (c : Code) (Q : State → Prop) (A : Nat → Prop) (G : Gx) (nL pc : Nat) (lv : List (Nat × Value)) (st : List Value) (K N : TK) (I : TI) (R : TR) (L : TL) (sz cells slots : Nat) : Prop :=
  ∀ (H : Heap) (locs : List Loc) (ls : Array Slot), Wd G A s K N I R L sz H locs → lv_has ls nL lv → (∀ q ∈ lv, q.2.category = 1) → W p l e Rm s m args below meth c H locs cells slots Q (F0 m pc ls st)
/-- the nest mates' constructors: words that a contract hands on by itself -/
def nws : List Cond := [.methodLinkNest RX5 32 yX1_init RX5, .methodLinkNest RX3 11 yX1_init RX5, .methodLinkNest RX0 9 yX4_init RX5]
def NW (U : State) : Prop := (∀ w ∈ nws, va_Nw w U) ∧ va_AO RX0 U ∧ va_AO RX2 U ∧ va_AO RX3 U
theorem NW.same {u U : State} (h : u.vm = U.vm) (hN : NW u) : NW U := by
  have hA : u.vm.Alike U.vm := by rw [h]; exact Vm.Alike.refl _
  refine ⟨fun w hw => ?_, hN.2.1.moved hA, hN.2.2.1.moved hA, hN.2.2.2.moved hA⟩
  have h1 := hN.1 w hw
  simp only [nws, List.mem_cons, List.mem_nil_iff, or_false] at hw
  rcases hw with rfl | rfl | rfl <;> exact va_Nw.same rfl h h1
theorem NW.warm {s U : State} (hW : s.WarmedH U.vm) (hN : NW s) : NW U := by
  refine ⟨fun w hw => ?_, hN.2.1.moved hW.alike, hN.2.2.1.moved hW.alike, hN.2.2.2.moved hW.alike⟩
  have h1 := hN.1 w hw
  simp only [nws, List.mem_cons, List.mem_nil_iff, or_false] at hw
  rcases hw with rfl | rfl | rfl <;> exact va_Nw.warmM hW h1
/-- what is fixed in a method's body -/
def Cx (p : Program) (s : State) (m : MethodId) (args : Array Value) (meth : Method) (c : Code) (A : Nat → Prop) (G : Gx) (own : String) (cc : ByteArray) (nL : Nat) : Prop :=
  p.tables.exec = Jvm.exec ∧ c.code = cc ∧ c.maxLocals = nL ∧ s.vm.findClass own = some m.cls ∧ (∀ w ∈ gw, w.before args s = true) ∧ va_K G.1 vwCl (tysG G) s ∧ (∀ q, s.heap.size ≤ q → A q) ∧ meth.locks = false ∧ NW s
theorem va_P1 {D : va_G} {cl : List vw_C} {q : Nat × va_E} {H : Heap} (h : va_at D cl q H) : va_P D cl [q] H := by
  intro k r hk
  match k, hk with
  | 0, hk => cases hk; exact h
  | k + 1, hk => simp at hk
/-- locals: the value at a place; a value laid at a place, in the order of the places -/
def lget (lv : List (Nat × Value)) (i : Nat) : Option Value := match lv with
  | [] => none
  | q :: l => if q.1 == i then some q.2 else lget l i
def lset (lv : List (Nat × Value)) (i : Nat) (v : Value) : List (Nat × Value) := match lv with
  | [] => [(i, v)]
  | q :: l => if q.1 == i then (i, v) :: l.filter (fun q => !(q.1 == i)) else if Nat.blt i q.1 then (i, v) :: q :: l.filter (fun q => !(q.1 == i)) else q :: lset l i v
theorem lget_mem {lv : List (Nat × Value)} {i : Nat} {v : Value} (h : lget lv i = some v) : (i, v) ∈ lv := by
  induction lv with
  | nil => simp [lget] at h
  | cons q l ih =>
    unfold lget at h
    by_cases hq : q.1 = i
    · rw [if_pos (by simpa using hq)] at h
      have : q = (i, v) := by cases q; simp at h hq; simp [h, hq]
      rw [this]; exact List.mem_cons_self
    · rw [if_neg (by simpa using hq)] at h
      exact List.mem_cons_of_mem _ (ih h)
theorem lset_mem {lv : List (Nat × Value)} {i : Nat} {v : Value} {q : Nat × Value} (h : q ∈ lset lv i v) : q = (i, v) ∨ (q ∈ lv ∧ q.1 ≠ i) := by
  induction lv with
  | nil => simp [lset] at h; exact Or.inl h
  | cons r l ih =>
    unfold lset at h
    by_cases hr : r.1 = i
    · rw [if_pos (by simpa using hr)] at h
      rcases List.mem_cons.mp h with h | h
      · exact Or.inl h
      · rw [List.mem_filter] at h
        exact Or.inr ⟨List.mem_cons_of_mem _ h.1, by simpa using h.2⟩
    · rw [if_neg (by simpa using hr)] at h
      split at h
      · rcases List.mem_cons.mp h with h | h
        · exact Or.inl h
        · rcases List.mem_cons.mp h with h | h
          · subst h; exact Or.inr ⟨List.mem_cons_self, hr⟩
          · rw [List.mem_filter] at h
            exact Or.inr ⟨List.mem_cons_of_mem _ h.1, by simpa using h.2⟩
      · rcases List.mem_cons.mp h with h | h
        · subst h; exact Or.inr ⟨List.mem_cons_self, hr⟩
        · rcases ih h with h | h
          · exact Or.inl h
          · exact Or.inr ⟨List.mem_cons_of_mem _ h.1, h.2⟩
theorem lset_has {ls : Array Slot} {nL i : Nat} {lv : List (Nat × Value)} {v : Value} (hc : ∀ q ∈ lv, q.2.category = 1) (h : lv_has ls nL ((i, v) :: lv.filter (fun q => !(q.1 == i) && !(q.1 + 1 == i && q.2.category == 2)))) : lv_has ls nL (lset lv i v) := by
  refine ⟨h.1, h.2.1, fun q hq => ?_⟩
  rcases lset_mem hq with h1 | ⟨h1, h2⟩
  · exact h.2.2 q (by rw [h1]; exact List.mem_cons_self)
  · refine h.2.2 q (List.mem_cons_of_mem _ (List.mem_filter.mpr ⟨h1, ?_⟩))
    have := hc q h1
    simp [h2, this]
theorem lset_cat {lv : List (Nat × Value)} {i : Nat} {v : Value} (hc : ∀ q ∈ lv, q.2.category = 1) (hv : v.category = 1) : ∀ q ∈ lset lv i v, q.2.category = 1 := by
  intro q hq
  rcases lset_mem hq with h1 | ⟨h1, -⟩
  · rw [h1]; exact hv
  · exact hc q h1
theorem rf_cat (r : Option Nat) : (va_rf r).category = 1 := by cases r <;> rfl
