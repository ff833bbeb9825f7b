/-! arrays over the memory -/
section ARR
variable {p : Program} {l : Launch} {e : Env} {Rm : Room} {s : State} {m : MethodId} {args : Array Value} {below : List Frame} {meth : Method} {c : Code} {Q : State → Prop} {A : Nat → Prop} {G : Gx} {own : String} {cc : ByteArray} {nL pc : Nat} {lv : List (Nat × Value)} {st : List Value} {K N : TK} {I : TI} {R : TR} {L : TL} {sz cells slots : Nat}
theorem wm_iald (C : Cx p s m args meth c A G own cc nL) {a : Nat} {i : Int32} (hK : K a = 20) (hin : vp_in i (N a)) (hdg : decode cc pc = .ok (.iaload, 1))
    (kk : Wm p l e Rm s m args below meth c Q A G nL (pc + 1) lv (.int (I a i.toNatClampNeg) :: st) K N I R L sz cells slots) : Wm p l e Rm s m args below meth c Q A G nL pc lv (.int i :: .ref a :: st) K N I R L sz cells slots := by
  intro H locs ls hW hl hc
  obtain ⟨hx, hb, hml, hown, hts, hKK, hA, hlk⟩ := C
  exact va_iald hx hb hKK (va_P1 (hW.2.1 a _ (cellO_i hK))) 0 0 rfl rfl hin hdg (kk H locs ls hW hl hc)
theorem wm_zald (C : Cx p s m args meth c A G own cc nL) {a : Nat} {i : Int32} (hK : K a = 21) (hin : vp_in i (N a)) (hdg : decode cc pc = .ok (.baload, 1))
    (kk : Wm p l e Rm s m args below meth c Q A G nL (pc + 1) lv (.int (I a i.toNatClampNeg) :: st) K N I R L sz cells slots) : Wm p l e Rm s m args below meth c Q A G nL pc lv (.int i :: .ref a :: st) K N I R L sz cells slots := by
  intro H locs ls hW hl hc
  obtain ⟨hx, hb, hml, hown, hts, hKK, hA, hlk⟩ := C
  exact va_zald hx hb hKK (va_P1 (hW.2.1 a _ (cellO_z hK))) 0 1 rfl rfl hin hdg (kk H locs ls hW hl hc)
theorem wm_lald (C : Cx p s m args meth c A G own cc nL) {a : Nat} {i : Int32} (hK : K a = 22) (hin : vp_in i (N a)) (hdg : decode cc pc = .ok (.laload, 1))
    (kk : Wm p l e Rm s m args below meth c Q A G nL (pc + 1) lv (.long (L a i.toNatClampNeg) :: st) K N I R L sz cells slots) : Wm p l e Rm s m args below meth c Q A G nL pc lv (.int i :: .ref a :: st) K N I R L sz cells slots := by
  intro H locs ls hW hl hc
  obtain ⟨hx, hb, hml, hown, hts, hKK, hA, hlk⟩ := C
  exact va_lald hx hb hKK (va_P1 (hW.2.1 a _ (cellO_l hK))) 0 2 rfl rfl hin hdg (kk H locs ls hW hl hc)
/-- the class of the elements of a reference array, by its tag -/
def qn : Nat → String
  | 3 => RX0
  | 4 => RX2
  | _ => RX3
theorem tys_q {G : Gx} {t : Nat} (h0 : 2 < t) (h1 : t < 6) : (tysG G)[t]? = some (G.2 t, .object (qn t)) := by
  rcases (show t = 3 ∨ t = 4 ∨ t = 5 by omega) with rfl | rfl | rfl <;> rfl
theorem wm_aald (C : Cx p s m args meth c A G own cc nL) {a t b : Nat} {i : Int32} (h0 : 2 < t) (h1 : t < 6) (hK : K a = 20 + t) (hin : vp_in i (N a)) (hR : R a i.toNatClampNeg = some b) (hdg : decode cc pc = .ok (.aaload, 1))
    (kk : Wm p l e Rm s m args below meth c Q A G nL (pc + 1) lv (.ref b :: st) K N I R L sz cells slots) : Wm p l e Rm s m args below meth c Q A G nL pc lv (.int i :: .ref a :: st) K N I R L sz cells slots := by
  intro H locs ls hW hl hc
  obtain ⟨hx, hb, hml, hown, hts, hKK, hA, hlk⟩ := C
  refine va_aldq hx hb hKK (va_P1 (hW.2.1 a _ (cellO_q hK h0 h1))) 0 t rfl (tys_q h0 h1) hin hdg ?_
  rw [hR]
  exact kk H locs ls hW hl hc
theorem wm_alen (C : Cx p s m args meth c A G own cc nL) {a : Nat} (hK : K a = 20 ∨ K a = 21 ∨ K a = 23 ∨ K a = 24 ∨ K a = 25) (hdg : decode cc pc = .ok (.arraylength, 1))
    (kk : Wm p l e Rm s m args below meth c Q A G nL (pc + 1) lv (.int (nI (N a)) :: st) K N I R L sz cells slots) : Wm p l e Rm s m args below meth c Q A G nL pc lv (.ref a :: st) K N I R L sz cells slots := by
  intro H locs ls hW hl hc
  obtain ⟨hx, hb, hml, hown, hts, hKK, hA, hlk⟩ := C
  rcases hK with hK | hK | hK | hK | hK
  · exact va_alen hx hb hKK (va_P1 (hW.2.1 a _ (cellO_i hK))) 0 0 rfl rfl rfl hdg (kk H locs ls hW hl hc)
  · exact va_alen hx hb hKK (va_P1 (hW.2.1 a _ (cellO_z hK))) 0 1 rfl rfl rfl hdg (kk H locs ls hW hl hc)
  · exact va_alen hx hb hKK (va_P1 (hW.2.1 a _ (cellO_q (t := 3) hK (by decide) (by decide)))) 0 3 rfl rfl rfl hdg (kk H locs ls hW hl hc)
  · exact va_alen hx hb hKK (va_P1 (hW.2.1 a _ (cellO_q (t := 4) hK (by decide) (by decide)))) 0 4 rfl rfl rfl hdg (kk H locs ls hW hl hc)
  · exact va_alen hx hb hKK (va_P1 (hW.2.1 a _ (cellO_q (t := 5) hK (by decide) (by decide)))) 0 5 rfl rfl rfl hdg (kk H locs ls hW hl hc)
theorem wm_iast (C : Cx p s m args meth c A G own cc nL) {a : Nat} {i x : Int32} (hK : K a = 20) (hin : vp_in i (N a)) (hdg : decode cc pc = .ok (.iastore, 1))
    (kk : Wm p l e Rm s m args below meth c Q A G nL (pc + 1) lv st K N (u2 I a i.toNatClampNeg x) R L sz cells slots) : Wm p l e Rm s m args below meth c Q A G nL pc lv (.int x :: .int i :: .ref a :: st) K N I R L sz cells slots := by
  intro H locs ls hW hl hc
  obtain ⟨hx, hb, hml, hown, hts, hKK, hA, hlk⟩ := C
  obtain ⟨hz, hP, hS, hB⟩ := hW
  refine W.iast hx hb (hP a _ (cellO_i hK)) ((hKK.2 0 _ rfl).1 (N a) (fun j => .int (I a j))) (fun q => by cases q) (by show ¬ (i < 0 ∨ (arrV _ _ _).slots.size ≤ _); rw [arrV_size]; exact hin) rfl rfl hdg fun H1 e1 e2 e3 => ?_
  refine kk H1 _ ls ⟨e2.trans hz, ?_, hS.put e2 e3 (hB a (by omega)).1, hB⟩ hl hc
  refine hP.step (a := a) (fun _ _ => rfl) (fun _ _ => rfl) (fun b hb => u2_ne _ _ hb) (fun _ _ => rfl) (fun _ _ => rfl) (fun b e hb _ => e3 b hb) (fun e he => ?_)
  rw [cellO_i hK] at he
  cases he
  show H1[a]? = some (vp_cell _ _)
  rw [e1, vp_cell_i, vp_cell_i, arrV_store, u2_at]
  congr 2
  funext q
  by_cases hq : q = i.toNatClampNeg
  · subst hq; simp [updV, va_up]
  · simp [updV, va_up, hq]
theorem wm_zast (C : Cx p s m args meth c A G own cc nL) {a : Nat} {i x : Int32} (hK : K a = 21) (hin : vp_in i (N a)) (hx01 : narrow .boolean (.int x) = .int x) (hdg : decode cc pc = .ok (.bastore, 1))
    (kk : Wm p l e Rm s m args below meth c Q A G nL (pc + 1) lv st K N (u2 I a i.toNatClampNeg x) R L sz cells slots) : Wm p l e Rm s m args below meth c Q A G nL pc lv (.int x :: .int i :: .ref a :: st) K N I R L sz cells slots := by
  intro H locs ls hW hl hc
  obtain ⟨hx, hb, hml, hown, hts, hKK, hA, hlk⟩ := C
  obtain ⟨hz, hP, hS, hB⟩ := hW
  refine W.zast hx hb (hP a _ (cellO_z hK)) ((hKK.2 1 _ rfl).1 (N a) (fun j => .int (I a j))) (fun q => by cases q) (by show ¬ (i < 0 ∨ (arrV _ _ _).slots.size ≤ _); rw [arrV_size]; exact hin) rfl rfl hdg fun H1 e1 e2 e3 => ?_
  refine kk H1 _ ls ⟨e2.trans hz, ?_, hS.put e2 e3 (hB a (by omega)).1, hB⟩ hl hc
  refine hP.step (a := a) (fun _ _ => rfl) (fun _ _ => rfl) (fun b hb => u2_ne _ _ hb) (fun _ _ => rfl) (fun _ _ => rfl) (fun b e hb _ => e3 b hb) (fun e he => ?_)
  rw [cellO_z hK] at he
  cases he
  rw [hx01] at e1
  show H1[a]? = some (vp_cell _ _)
  rw [e1, vp_cell_i, vp_cell_i, arrV_store, u2_at]
  congr 2
  funext q
  by_cases hq : q = i.toNatClampNeg
  · subst hq; simp [updV, va_up]
  · simp [updV, va_up, hq]
theorem wm_last (C : Cx p s m args meth c A G own cc nL) {a : Nat} {i : Int32} {x : Int64} (hK : K a = 22) (hin : vp_in i (N a)) (hdg : decode cc pc = .ok (.lastore, 1))
    (kk : Wm p l e Rm s m args below meth c Q A G nL (pc + 1) lv st K N I R (u2 L a i.toNatClampNeg x) sz cells slots) : Wm p l e Rm s m args below meth c Q A G nL pc lv (.long x :: .int i :: .ref a :: st) K N I R L sz cells slots := by
  intro H locs ls hW hl hc
  obtain ⟨hx, hb, hml, hown, hts, hKK, hA, hlk⟩ := C
  obtain ⟨hz, hP, hS, hB⟩ := hW
  refine W.last hx hb (hP a _ (cellO_l hK)) ((hKK.2 2 _ rfl).1 (N a) (fun j => .long (L a j))) (fun q => by cases q) (by show ¬ (i < 0 ∨ (arrV _ _ _).slots.size ≤ _); rw [arrV_size]; exact hin) rfl rfl hdg fun H1 e1 e2 e3 => ?_
  refine kk H1 _ ls ⟨e2.trans hz, ?_, hS.put e2 e3 (hB a (by omega)).1, hB⟩ hl hc
  refine hP.step (a := a) (fun _ _ => rfl) (fun _ _ => rfl) (fun _ _ => rfl) (fun _ _ => rfl) (fun b hb => u2_ne _ _ hb) (fun b e hb _ => e3 b hb) (fun e he => ?_)
  rw [cellO_l hK] at he
  cases he
  show H1[a]? = some (vp_cell _ _)
  rw [e1, vp_cell_l, vp_cell_l, arrV_store, u2_at]
  congr 2
  funext q
  by_cases hq : q = i.toNatClampNeg
  · subst hq; simp [updV, va_up]
  · simp [updV, va_up, hq]
/-- a reference array's tag and the class of what is stored -/
def tq : Nat → Nat
  | 3 => 1
  | 4 => 3
  | _ => 4
theorem vw_tq {t : Nat} (h0 : 2 < t) (h1 : t < 6) : ∃ r, vwCl[tq t]? = some r ∧ r.1 = qn t := by
  rcases (show t = 3 ∨ t = 4 ∨ t = 5 by omega) with rfl | rfl | rfl
  · exact ⟨_, rfl, rfl⟩
  · exact ⟨_, rfl, rfl⟩
  · exact ⟨_, rfl, rfl⟩
theorem tq_in {t : Nat} : 0 < tq t ∧ tq t < 8 := by
  unfold tq; split <;> decide
theorem wm_aast (C : Cx p s m args meth c A G own cc nL) {a t b : Nat} {i : Int32} (h0 : 2 < t) (h1 : t < 6) (hK : K a = 20 + t) (hin : vp_in i (N a)) (hb0 : K b = 10 + tq t) (hdg : decode cc pc = .ok (.aastore, 1))
    (kk : Wm p l e Rm s m args below meth c Q A G nL (pc + 1) lv st K N I (u2 R a i.toNatClampNeg (some b)) L sz cells slots) : Wm p l e Rm s m args below meth c Q A G nL pc lv (.ref b :: .int i :: .ref a :: st) K N I R L sz cells slots := by
  intro H locs ls hW hl hc
  obtain ⟨hx, hb, hml, hown, hts, hKK, hA, hlk⟩ := C
  obtain ⟨hz, hP, hS, hB⟩ := hW
  have hlt : i.toNatClampNeg < N a := Nat.not_le.mp fun q => hin (Or.inr q)
  have hi0 : ¬ i < 0 := fun q => hin (Or.inl q)
  obtain ⟨r, hr, hrq⟩ := vw_tq h0 h1
  obtain ⟨r', hr', cellV, g1, g2, g3, -⟩ := hP b _ (cellO_o hb0 tq_in.1 tq_in.2)
  have hcls := (hKK.1 (tq t) r hr).2
  obtain ⟨kA, comp, k1, k2, k3, -⟩ := (hKK.2 t _ (tys_q h0 h1)).2
  have hcomp : comp = G.1.1 (tq t) := by rw [← hrq] at k3; exact Option.some.inj (k3.symm.trans hcls.1)
  subst hcomp
  obtain ⟨kC, hkC, -⟩ := hcls.2
  refine W.aast hx hb (hP a _ (cellO_q hK h0 h1)) (fun q h => by cases h) (fun h => by cases h) k1 k2 rfl hkC ⟨hi0, by show _ < (arrV _ _ _).slots.size; rw [arrV_size]; exact hlt⟩ g1 (fun q h => by rw [g3] at h; cases h) (by rw [g2]; exact hkC) (by rw [g2]; exact va_assign hcls) rfl rfl hdg fun H1 e1 e2 e3 => ?_
  refine kk H1 _ ls ⟨e2.trans hz, ?_, hS.put e2 e3 (hB a (by omega)).1, hB⟩ hl hc
  refine hP.step (a := a) (fun _ _ => rfl) (fun _ _ => rfl) (fun _ _ => rfl) (fun b hb => u2_ne _ _ hb) (fun _ _ => rfl) (fun b e hb _ => e3 b hb) (fun e he => ?_)
  rw [cellO_q hK h0 h1] at he
  cases he
  show H1[a]? = some (vp_cell _ _)
  rw [e1, vp_cell_q, vp_cell_q, arrV_store, u2_at]
  congr 2
  funext q
  by_cases hq : q = i.toNatClampNeg
  · subst hq; simp [updV, va_up, va_rf]
  · simp [updV, va_up, hq]
/-- a new cell: the world behind it -/
theorem Wd.push {A : Nat → Prop} {s : State} {K' N' : TK} {I' : TI} {R' : TR} {L' : TL} {H H1 : Heap} {locs : List Loc} (hA : ∀ q, s.heap.size ≤ q → A q) (hW : Wd G A s K N I R L sz H locs) (z1 : H1.size = sz + 1) (o1 : ∀ q, q < sz → H1[q]? = H[q]?) (hK : ∀ b, b ≠ sz → K' b = K b) (hN : ∀ b, b ≠ sz → N' b = N b) (hI : ∀ b, b ≠ sz → I' b = I b) (hR : ∀ b, b ≠ sz → R' b = R b) (hL : ∀ b, b ≠ sz → L' b = L b)
    (ha : ∀ e, cellO G K' N' I' R' L' sz = some e → va_at G.1 vwCl (sz, e) H1) : Wd G A s K' N' I' R' L' (sz + 1) H1 locs := by
  obtain ⟨hz, hP, hS, hB⟩ := hW
  refine ⟨z1, ?_, ⟨Nat.le_trans hS.1 (by omega), fun x h1 h2 => (o1 x (by have := hS.1; omega)).trans (hS.2.1 x h1 h2), hS.2.2⟩, fun a ha => ?_⟩
  · exact hP.step (a := sz) hK hN hI hR hL (fun b e hb he => o1 b (by have := (hP b e he).lt; omega)) ha
  · by_cases h : a = sz
    · subst h; exact ⟨hA _ (by have := hS.1; omega), Nat.lt_succ_self _⟩
    · rw [hK a h] at ha
      exact ⟨(hB a ha).1, Nat.lt_succ_of_lt (hB a ha).2⟩
theorem wm_newI (C : Cx p s m args meth c A G own cc nL) {n : Int32} (n' : Nat) (hw : Cond.arrayClass .int ∈ gw) (hn : ¬ n < 0) (hN : n.toNatClampNeg = n') (hbig : n' * 4 ≤ 536870912) (hcells : cells + 1 ≤ Rm.cells) (hslots : slots + n' ≤ Rm.slots) (hdg : decode cc pc = .ok (.newarray .int, 2))
    (kk : Wm p l e Rm s m args below meth c Q A G nL (pc + 2) lv (.ref sz :: st) (va_up K sz 20) (va_up N sz n') (va_up I sz (fun _ => 0)) R L (sz + 1) (cells + 1) (slots + n')) : Wm p l e Rm s m args below meth c Q A G nL pc lv (.int n :: st) K N I R L sz cells slots := by
  intro H locs ls hW hl hc
  obtain ⟨hx, hb, hml, hown, hts, hKK, hA, hlk⟩ := C
  refine va_newaK (atype := .int) hx hb (hts _ hw) rfl hdg rfl hn hN hbig hcells hslots hW.1 fun H1 cA e1 z1 o1 hAr hNm => ?_
  have hcA : cA = G.2 0 := Option.some.inj (hNm.symm.trans (hKK.2 0 _ rfl).2)
  subst hcA
  refine kk H1 _ ls (hW.push hA z1 o1 (fun b hb => va_up_ne _ _ hb) (fun b hb => va_up_ne _ _ hb) (fun b hb => va_up_ne _ _ hb) (fun _ _ => rfl) (fun _ _ => rfl) (fun e he => ?_)) hl hc
  rw [cellO_i (va_up_self _ _ _), va_up_self, va_up_self] at he
  cases he
  exact e1
theorem wm_newZ (C : Cx p s m args meth c A G own cc nL) {n : Int32} (n' : Nat) (hw : Cond.arrayClass .boolean ∈ gw) (hn : ¬ n < 0) (hN : n.toNatClampNeg = n') (hbig : n' * 1 ≤ 536870912) (hcells : cells + 1 ≤ Rm.cells) (hslots : slots + n' ≤ Rm.slots) (hdg : decode cc pc = .ok (.newarray .boolean, 2))
    (kk : Wm p l e Rm s m args below meth c Q A G nL (pc + 2) lv (.ref sz :: st) (va_up K sz 21) (va_up N sz n') (va_up I sz (fun _ => 0)) R L (sz + 1) (cells + 1) (slots + n')) : Wm p l e Rm s m args below meth c Q A G nL pc lv (.int n :: st) K N I R L sz cells slots := by
  intro H locs ls hW hl hc
  obtain ⟨hx, hb, hml, hown, hts, hKK, hA, hlk⟩ := C
  refine va_newaK (atype := .boolean) hx hb (hts _ hw) rfl hdg rfl hn hN hbig hcells hslots hW.1 fun H1 cA e1 z1 o1 hAr hNm => ?_
  have hcA : cA = G.2 1 := Option.some.inj (hNm.symm.trans (hKK.2 1 _ rfl).2)
  subst hcA
  refine kk H1 _ ls (hW.push hA z1 o1 (fun b hb => va_up_ne _ _ hb) (fun b hb => va_up_ne _ _ hb) (fun b hb => va_up_ne _ _ hb) (fun _ _ => rfl) (fun _ _ => rfl) (fun e he => ?_)) hl hc
  rw [cellO_z (va_up_self _ _ _), va_up_self, va_up_self] at he
  cases he
  exact e1
theorem wm_newL (C : Cx p s m args meth c A G own cc nL) {n : Int32} (n' : Nat) (hw : Cond.arrayClass .long ∈ gw) (hn : ¬ n < 0) (hN : n.toNatClampNeg = n') (hbig : n' * 8 ≤ 536870912) (hcells : cells + 1 ≤ Rm.cells) (hslots : slots + n' ≤ Rm.slots) (hdg : decode cc pc = .ok (.newarray .long, 2))
    (kk : Wm p l e Rm s m args below meth c Q A G nL (pc + 2) lv (.ref sz :: st) (va_up K sz 22) (va_up N sz n') I R (va_up L sz (fun _ => 0)) (sz + 1) (cells + 1) (slots + n')) : Wm p l e Rm s m args below meth c Q A G nL pc lv (.int n :: st) K N I R L sz cells slots := by
  intro H locs ls hW hl hc
  obtain ⟨hx, hb, hml, hown, hts, hKK, hA, hlk⟩ := C
  refine va_newaK (atype := .long) hx hb (hts _ hw) rfl hdg rfl hn hN hbig hcells hslots hW.1 fun H1 cA e1 z1 o1 hAr hNm => ?_
  have hcA : cA = G.2 2 := Option.some.inj (hNm.symm.trans (hKK.2 2 _ rfl).2)
  subst hcA
  refine kk H1 _ ls (hW.push hA z1 o1 (fun b hb => va_up_ne _ _ hb) (fun b hb => va_up_ne _ _ hb) (fun _ _ => rfl) (fun _ _ => rfl) (fun b hb => va_up_ne _ _ hb) (fun e he => ?_)) hl hc
  rw [cellO_l (va_up_self _ _ _), va_up_self, va_up_self] at he
  cases he
  exact e1
theorem wm_newQ (C : Cx p s m args meth c A G own cc nL) {t index : Nat} {n : Int32} (n' : Nat) (h0 : 2 < t) (h1 : t < 6) (hw : Cond.classLink own index (qn t) ∈ gw) (hn : ¬ n < 0) (hN : n.toNatClampNeg = n') (hbig : n' * 4 ≤ 536870912) (hcells : cells + 1 ≤ Rm.cells) (hslots : slots + n' ≤ Rm.slots) (hdg : decode cc pc = .ok (.anewarray index, 3))
    (kk : Wm p l e Rm s m args below meth c Q A G nL (pc + 3) lv (.ref sz :: st) (va_up K sz (20 + t)) (va_up N sz n') I (va_up R sz (fun _ => none)) L (sz + 1) (cells + 1) (slots + n')) : Wm p l e Rm s m args below meth c Q A G nL pc lv (.int n :: st) K N I R L sz cells slots := by
  intro H locs ls hW hl hc
  obtain ⟨hx, hb, hml, hown, hts, hKK, hA, hlk⟩ := C
  subst hN
  have hao : va_AO (qn t) s := by
    rcases (show t = 3 ∨ t = 4 ∨ t = 5 by omega) with rfl | rfl | rfl
    · exact hlk.2.2.1
    · exact hlk.2.2.2.1
    · exact hlk.2.2.2.2
  refine W.anew hx hb hown (hts _ hw) (va_AO.use hao) rfl hdg rfl hn hbig hcells hslots fun cA kA comp f1 f2 f3 f4 => ?_
  obtain ⟨-, -, -, -, -, f5⟩ := (hKK.2 t _ (tys_q h0 h1)).2
  have hcA : cA = G.2 t := Option.some.inj (f1.symm.trans f5)
  subst hcA
  have hz := hW.1
  subst hz
  refine kk _ _ ls (hW.push hA (by rw [Array.size_push]) (fun q hq => by rw [Array.getElem?_push, if_neg (Nat.ne_of_lt hq)]) (fun b hb => va_up_ne _ _ hb) (fun b hb => va_up_ne _ _ hb) (fun _ _ => rfl) (fun b hb => va_up_ne _ _ hb) (fun _ _ => rfl) (fun e he => ?_)) hl hc
  rw [cellO_q (t := t) (va_up_self _ _ _) h0 h1, va_up_self, va_up_self] at he
  cases he
  show _ = some (vp_cell _ _)
  rw [Array.getElem?_push_size, vp_cell_q, ← arrV_new]
  rfl
end ARR
