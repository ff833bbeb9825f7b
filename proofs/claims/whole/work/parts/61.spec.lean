/-! matching, as a function on lists of items -/
def skipS : List It → List It
  | [] => []
  | x :: l => if x.1 = 0 ∨ x.1 = -1 then skipS l else x :: l
def behT : List Int32 → List It → Option (List It)
  | [], l => some l
  | w :: ws, l => match skipS l with
    | [] => none
    | x :: l' => if x.1 = w then behT ws l' else none
/-- what is behind a match of a phrase -/
def phM (ph : Phr) (l : List It) : Option (List It) := if ph.1 = 0 then behT ph.2.1 l else match l with
  | [] => none
  | x :: t => if hasN ph.1 (hd0 ph.2.1) x.1.toNatClampNeg then some t else none
def tryL (D : Dt) : List Nat → List It → Option (Nat × List It)
  | [], _ => none
  | p :: ps, l => match D.2.2.2[p]? with
    | none => tryL D ps l
    | some ph => match phM ph l with
      | some r => some (p, r)
      | none => tryL D ps l
def putIt (x : It) (c : Int32) (p : Nat) : It := (c, x.2.1, x.2.2.1, nI (p + 1), x.2.2.2.2.1, x.2.2.2.2.2)
/-- words put at an item's place; none: too long a row -/
def pushs (x : It) (p : Nat) : List Int32 → List It → Option (List It)
  | [], out => some out
  | w :: ws, out => if out.length < 300 then pushs x p ws (out ++ [putIt x w p]) else none
def putL (ph : Phr) (p : Nat) (x : It) (out : List It) : Int32 × List It := if ph.1 = 0 then (match pushs x p ph.2.2 out with
    | some o => (0, o)
    | none => (-3, out)) else (match chg ph.1 (hd0 ph.2.1) (hd0 ph.2.2) x.1.toNatClampNeg with
    | none => (-5, out)
    | some c => if out.length < 300 then (0, out ++ [putIt x (nI c) p]) else (-3, out))
/-- fault, rest, row, matches -/
abbrev StpT : Type := Int32 × List It × List It × Int32
def stepR (D : Dt) (tr : Option (Nat × List It)) (x : It) (t out : List It) (mt : Int32) : StpT := match tr with
  | none => if out.length < 300 then (0, t, out ++ [x], mt) else (-3, t, out, mt)
  | some (p, r) => match D.2.2.2[p]? with
    | none => (-3, t, out, mt)
    | some ph => ((putL ph p x out).1, r, (putL ph p x out).2, mt + 1)
def stepS (D : Dt) (ps : List Nat) (x : It) (t out : List It) (mt : Int32) : StpT := stepR D (if 0 < x.1 then tryL D ps (x :: t) else none) x t out mt
def matchS (D : Dt) (ps : List Nat) : Nat → List It → List It → Int32 → Int32 × List It × Int32
  | 0, _, out, mt => (0, out, mt)
  | _ + 1, [], out, mt => (0, out, mt)
  | n + 1, x :: t, out, mt => if (stepS D ps x t out mt).1 = 0 then matchS D ps n (stepS D ps x t out mt).2.1 (stepS D ps x t out mt).2.2.1 (stepS D ps x t out mt).2.2.2 else ((stepS D ps x t out mt).1, (stepS D ps x t out mt).2.2.1, (stepS D ps x t out mt).2.2.2)
/-- one list is what is left of another -/
def Suf (r l : List It) : Prop := ∃ k, k ≤ l.length ∧ r = l.drop k
theorem Suf.rf {l : List It} : Suf l l := ⟨0, Nat.zero_le _, rfl⟩
theorem Suf.cons {r l : List It} {x : It} (h : Suf r l) : Suf r (x :: l) := by
  obtain ⟨k, h1, h2⟩ := h
  exact ⟨k + 1, by simp; omega, by rw [h2]; rfl⟩
theorem Suf.len {r l : List It} (h : Suf r l) : r.length ≤ l.length := by
  obtain ⟨k, h1, rfl⟩ := h; simp
theorem Suf.eq {r l : List It} (h : Suf r l) : r = l.drop (l.length - r.length) := by
  obtain ⟨k, h1, rfl⟩ := h
  simp only [List.length_drop]
  rw [show l.length - (l.length - k) = k by omega]
theorem Suf.tr {a b c : List It} (h : Suf a b) (h2 : Suf b c) : Suf a c := by
  obtain ⟨k, h1, rfl⟩ := h
  obtain ⟨j, h3, rfl⟩ := h2
  exact ⟨j + k, by simp at h1; omega, by rw [List.drop_drop]⟩
theorem skipS_suf : ∀ l : List It, Suf (skipS l) l
  | [] => Suf.rf
  | x :: l => by
    unfold skipS
    split
    · exact (skipS_suf l).cons
    · exact Suf.rf
theorem behT_suf : ∀ (ws : List Int32) (l r : List It), behT ws l = some r → Suf r l
  | [], l, r, h => by
    simp only [behT, Option.some.injEq] at h; rw [h]; exact Suf.rf
  | w :: ws, l, r, h => by
    unfold behT at h
    have hs := skipS_suf l
    split at h
    · cases h
    · rename_i x l' he
      split at h
      · rw [he] at hs
        exact ((behT_suf ws l' r h).cons (x := x)).tr hs
      · cases h
theorem behT_lt : ∀ (ws : List Int32) (l r : List It), ws ≠ [] → behT ws l = some r → r.length < l.length
  | [], l, r, h, _ => absurd rfl h
  | w :: ws, l, r, _, h => by
    unfold behT at h
    have hs := skipS_suf l
    split at h
    · cases h
    · rename_i x l' he
      split at h
      · rw [he] at hs
        have h1 := (behT_suf ws l' r h).len
        have h2 := hs.len
        simp at h2; omega
      · cases h
theorem phM_lt {ph : Phr} {l r : List It} (hok : okP ph) (h : phM ph l = some r) : r.length < l.length ∧ Suf r l := by
  unfold phM at h
  split at h
  · exact ⟨behT_lt _ _ _ (by intro z; have := hok.2.1; rw [z] at this; simp at this) h, behT_suf _ _ _ h⟩
  · split at h
    · cases h
    · rename_i x t
      split at h
      · cases h; exact ⟨by simp, Suf.rf.cons⟩
      · cases h
theorem tryL_lt {D : Dt} (hw : WfD D) : ∀ (ps : List Nat) (l r : List It) (p : Nat), tryL D ps l = some (p, r) → r.length < l.length ∧ Suf r l
  | [], l, r, p, h => by simp [tryL] at h
  | q :: ps, l, r, p, h => by
    unfold tryL at h
    split at h
    · exact tryL_lt hw ps l r p h
    · rename_i ph hph
      split at h
      · rename_i r' hr'
        cases h
        exact phM_lt (hw.2.2.1 ph (List.mem_of_getElem? hph)) hr'
      · exact tryL_lt hw ps l r p h
theorem stepS_lt {D : Dt} (hw : WfD D) {ps : List Nat} {x : It} {t out : List It} {mt : Int32} : (stepS D ps x t out mt).2.1.length ≤ t.length ∧ Suf (stepS D ps x t out mt).2.1 t := by
  unfold stepS stepR
  split
  · split <;> exact ⟨Nat.le_refl _, Suf.rf⟩
  · rename_i p r htr
    split
    · exact ⟨Nat.le_refl _, Suf.rf⟩
    · split at htr
      · have h := tryL_lt hw ps (x :: t) r p htr
        obtain ⟨k, h1, h2⟩ := h.2
        cases k with
        | zero => rw [h2] at h; simp at h
        | succ k => exact ⟨by have := h.1; simp at this; show r.length ≤ t.length; omega, ⟨k, by simpa using h1, by simpa using h2⟩⟩
      · cases htr
/-- a fault is below 0 -/
theorem putL_neg {ph : Phr} {p : Nat} {x : It} {out : List It} : (putL ph p x out).1 = 0 ∨ (putL ph p x out).1 = -3 ∨ (putL ph p x out).1 = -5 := by
  unfold putL
  split
  · split <;> simp
  · split
    · simp
    · split <;> simp
theorem stepS_neg {D : Dt} {ps : List Nat} {x : It} {t out : List It} {mt : Int32} : (stepS D ps x t out mt).1 = 0 ∨ (stepS D ps x t out mt).1 = -3 ∨ (stepS D ps x t out mt).1 = -5 := by
  unfold stepS stepR
  split
  · split <;> simp
  · split
    · simp
    · exact putL_neg
theorem matchS_neg {D : Dt} {ps : List Nat} : ∀ (n : Nat) (l out : List It) (mt : Int32), (matchS D ps n l out mt).1 = 0 ∨ (matchS D ps n l out mt).1 = -3 ∨ (matchS D ps n l out mt).1 = -5
  | 0, _, _, _ => Or.inl rfl
  | _ + 1, [], _, _ => Or.inl rfl
  | n + 1, x :: t, out, mt => by
    unfold matchS
    split
    · exact matchS_neg n _ _ _
    · exact stepS_neg
