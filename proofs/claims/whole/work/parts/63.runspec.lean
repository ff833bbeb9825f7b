/-! what a run makes, as a function on lists -/
/-- fault, row, copies, matches, ring -/
abbrev ResT : Type := Int32 × List It × Int32 × Int32 × List Int32
/-- which statement a copy's entry names (from 0) -/
def cpOf (e : Int32) : Option Nat := if e < -1000 ∧ -1060 ≤ e then some ((-1000 - e).toNatClampNeg - 1) else none
def ownIt (e : Int32) (t i : Nat) : It := (e, nI t, nI i, 0, 0, 0)
def entS (cpf : Nat → Int32 → Int32 → ResT) (t : Nat) : Nat → List Int32 → List It → Int32 → Int32 → ResT
  | _, [], out, cp, mt => (0, out, cp, mt, [])
  | i, e :: es, out, cp, mt => match cpOf e with
    | none => if out.length < 300 then entS cpf t (i + 1) es (out ++ [ownIt e t i]) cp mt else (-3, [], cp, mt, [])
    | some s => if (cpf s cp mt).1 = 0 then (if out.length + (cpf s cp mt).2.1.length ≤ 300 then entS cpf t (i + 1) es (out ++ (cpf s cp mt).2.1) (cpf s cp mt).2.2.1 (cpf s cp mt).2.2.2.1 else (-3, [], (cpf s cp mt).2.2.1, (cpf s cp mt).2.2.2.1, [])) else ((cpf s cp mt).1, [], (cpf s cp mt).2.2)
/-- one copy more on the way -/
def upIt (hid : Bool) (x : It) : It := (x.1, x.2.1, x.2.2.1, x.2.2.2.1, x.2.2.2.2.1 + 1, if hid then 1 else x.2.2.2.2.2)
def ringS (D : Dt) (op : List Nat) (t : Nat) : List Int32 := (op.dropWhile (fun u => u != t)).map (nameOf D)
def cpE (st : Stt) (cp : Int32) (m : Int32 × List It × Int32) : ResT := if m.1 = 0 then (0, m.2.1.map (upIt st.2.2.1), cp, m.2.2, []) else (m.1, [], cp, m.2.2, [])
def cpM (D : Dt) (st : Stt) (r : ResT) : ResT := if r.1 = 0 then cpE st r.2.2.1 (matchS D st.2.2.2 r.2.1.length r.2.1 [] r.2.2.2.1) else r
def cpS (D : Dt) : Nat → List Nat → Nat → Int32 → Int32 → ResT
  | 0, _, _, cp, mt => (-3, [], cp, mt, [])
  | n + 1, op, s, cp, mt => if cp < 100 then (match D.2.2.1[s]? with
    | none => (-3, [], cp, mt, [])
    | some st => match tNm D st.2.1 with
      | none => (-10 - nI (s + 1), [], cp + 1, mt, [])
      | some t => if t ∈ op then (-1, [], cp + 1, mt, ringS D op t) else cpM D st (entS (cpS D n (op ++ [t])) t 0 (D.2.1 t) [] (cp + 1) mt)) else (-3, [], cp, mt, [])
/-- phrases behind a cut -/
def cutP (D : Dt) (c : Int32) : List Nat := if c = -3000 then [] else match D.2.2.1[(-2000 - c).toNatClampNeg - 1]? with
  | some st => st.2.2.2
  | none => []
def matchC (D : Dt) : Nat → List Nat → List It → List It → Int32 → Int32 × List It × Int32
  | 0, _, _, out, mt => (0, out, mt)
  | _ + 1, _, [], out, mt => (0, out, mt)
  | n + 1, ps, x :: t, out, mt => if x.1 < -1 then matchC D n (cutP D x.1) t out mt else (if (stepS D ps x t out mt).1 = 0 then matchC D n ps (stepS D ps x t out mt).2.1 (stepS D ps x t out mt).2.2.1 (stepS D ps x t out mt).2.2.2 else ((stepS D ps x t out mt).1, (stepS D ps x t out mt).2.2.1, (stepS D ps x t out mt).2.2.2))
def runE (cp : Int32) (m : Int32 × List It × Int32) : ResT := if m.1 = 0 then (0, m.2.1, cp, m.2.2, []) else (m.1, [], cp, m.2.2, [])
def runS (D : Dt) : ResT := if (entS (cpS D 13 [0]) 0 0 (D.2.1 0) [] 0 0).1 = 0 then runE (entS (cpS D 13 [0]) 0 0 (D.2.1 0) [] 0 0).2.2.1 (matchC D (entS (cpS D 13 [0]) 0 0 (D.2.1 0) [] 0 0).2.1.length [] (entS (cpS D 13 [0]) 0 0 (D.2.1 0) [] 0 0).2.1 [] (entS (cpS D 13 [0]) 0 0 (D.2.1 0) [] 0 0).2.2.2.1) else entS (cpS D 13 [0]) 0 0 (D.2.1 0) [] 0 0
/-- what run answers -/
def runV (r : ResT) : Int32 := if r.1 = 0 then nI r.2.1.length else r.1
/-- an item of a row -/
def okR (D : Dt) (x : It) : Prop := plOk x.1 = true ∨ x.1 = -3000 ∨ ∃ (s : Nat) (st : Stt), D.2.2.1[s]? = some st ∧ st.1 = false ∧ x.1 = -2000 - nI (s + 1)
theorem pl_ge {c : Int32} (h : plOk c = true) : ¬ c < -1 := by
  unfold plOk at h
  simp only [Bool.or_eq_true, beq_iff_eq] at h
  rcases h with (h | h) | h
  · rw [h]; decide
  · rw [h]; decide
  · obtain ⟨n, h0, h1, rfl, -⟩ := wd_spec h
    have hn : n < 2 ^ 31 := by have := pw_lt (k := 6) (by decide); omega
    intro q
    rw [Int32.lt_iff_toInt_lt, nI_toInt hn] at q
    have : ((-1 : Int32)).toInt = -1 := rfl
    omega
theorem pl_wd {c : Int32} (h : plOk c = true) (h0 : 0 < c) : wd c = true := by
  unfold plOk at h
  simp only [Bool.or_eq_true, beq_iff_eq] at h
  rcases h with (h | h) | h
  · rw [h] at h0; exact absurd h0 (by decide)
  · rw [h] at h0; exact absurd h0 (by decide)
  · exact h
theorem wd_pl {c : Int32} (h : wd c = true) : plOk c = true := by simp [plOk, h]
theorem st_lt : ∀ n, n < 61 → 0 < n → (-2000 - nI n) < -1 ∧ ¬ 0 < (-2000 - nI n) ∧ ¬ (-2000 - nI n) = -3000 ∧ cv (-2000 - nI n) = -100 - nI n ∧ (-100 - nI n) < -1 ∧ (-2000 - (-2000 - nI n)) = nI n ∧ ¬ (-100) ≤ (-100 - nI n) ∧ -100 - (-100 - nI n) = nI n ∧ (-2000 - nI n) < -2000 ∧ ¬ (-2000 - nI n) ≤ -3000 := by decide +kernel
theorem okR.wd {D : Dt} (hl : D.2.2.1.length ≤ 60) {x : It} (h : okR D x) (h0 : 0 < x.1) : wd x.1 = true := by
  rcases h with h | h | ⟨s, st, h1, -, h2⟩
  · exact pl_wd h h0
  · rw [h] at h0; exact absurd h0 (by decide)
  · have := (List.getElem?_eq_some_iff.mp h1).1
    rw [h2] at h0; exact absurd h0 (st_lt (s + 1) (by omega) (by omega)).2.1
theorem okR.pl {D : Dt} {x : It} (h : okR D x) (h0 : ¬ x.1 < -1) (hl : D.2.2.1.length ≤ 60) : plOk x.1 = true := by
  rcases h with h | h | ⟨s, st, h1, -, h2⟩
  · exact h
  · rw [h] at h0; exact absurd (by decide) h0
  · have := (List.getElem?_eq_some_iff.mp h1).1
    rw [h2] at h0; exact absurd (st_lt (s + 1) (by omega) (by omega)).1 h0
theorem pos_ge {c : Int32} (h : 0 < c) : ¬ c < -1 := by
  rw [Int32.lt_iff_toInt_lt] at h ⊢
  have h1 : ((-1 : Int32)).toInt = -1 := rfl
  have h2 : ((0 : Int32)).toInt = 0 := rfl
  omega
theorem cv_ge {c : Int32} (h : ¬ c < -1) : cv c = c := by
  rw [Int32.lt_iff_toInt_lt] at h
  have h1 : ((-1 : Int32)).toInt = -1 := rfl
  have h2 : ((-2000 : Int32)).toInt = -2000 := rfl
  have h3 : ((-1000 : Int32)).toInt = -1000 := rfl
  unfold cv
  rw [if_neg, if_neg, if_neg]
  · rw [Int32.lt_iff_toInt_lt]; omega
  · rw [Int32.lt_iff_toInt_lt]; omega
  · intro z; rw [z] at h; exact h (by decide)
theorem okR.cv {D : Dt} (hl : D.2.2.1.length ≤ 60) {x : It} (h : okR D x) (h0 : x.1 < -1) : cv x.1 < -1 := by
  rcases h with h | h | ⟨s, st, h1, -, h2⟩
  · exact absurd h0 (pl_ge h)
  · rw [h]; decide
  · have := (List.getElem?_eq_some_iff.mp h1).1
    have h3 := st_lt (s + 1) (by omega) (by omega)
    rw [h2, h3.2.2.2.1]; exact h3.2.2.2.2.1
/-! matching commutes with what leaves plain codes and places as they are -/
def LF (D : Dt) (f : It → It) : Prop := (∀ x, ¬ x.1 < -1 → (f x).1 = x.1) ∧ (∀ x, okR D x → x.1 < -1 → (f x).1 < -1) ∧ (∀ (x : It) (c : Int32) (p : Nat), ¬ c < -1 → f (putIt x c p) = putIt (f x) c p)
theorem LF.z {D : Dt} {f : It → It} (hf : LF D f) {x : It} (hx : okR D x) : ((f x).1 = 0 ∨ (f x).1 = -1) ↔ (x.1 = 0 ∨ x.1 = -1) := by
  by_cases h : x.1 < -1
  · have h2 := hf.2.1 x hx h
    constructor
    · intro z; rcases z with z | z
      · rw [z] at h2; exact absurd h2 (by decide)
      · rw [z] at h2; exact absurd h2 (by decide)
    · intro z; rcases z with z | z
      · rw [z] at h; exact absurd h (by decide)
      · rw [z] at h; exact absurd h (by decide)
  · rw [hf.1 x h]
theorem LF.w {D : Dt} {f : It → It} (hf : LF D f) {x : It} (hx : okR D x) {w : Int32} (hw : ¬ w < -1) : (f x).1 = w ↔ x.1 = w := by
  by_cases h : x.1 < -1
  · have h2 := hf.2.1 x hx h
    constructor
    · intro z; rw [z] at h2; exact absurd h2 hw
    · intro z; rw [z] at h; exact absurd h hw
  · rw [hf.1 x h]
theorem skipS_map {D : Dt} {f : It → It} (hf : LF D f) : ∀ l : List It, (∀ x ∈ l, okR D x) → skipS (l.map f) = (skipS l).map f
  | [], _ => rfl
  | x :: l, h => by
    have hx := hf.z (h x List.mem_cons_self)
    have ih := skipS_map hf l (fun y hy => h y (List.mem_cons_of_mem _ hy))
    simp only [List.map_cons, skipS, hx]
    split
    · exact ih
    · rfl
theorem behT_map {D : Dt} {f : It → It} (hf : LF D f) : ∀ (ws : List Int32) (l : List It), (∀ w ∈ ws, wd w = true) → (∀ x ∈ l, okR D x) → behT ws (l.map f) = (behT ws l).map (List.map f)
  | [], l, _, _ => rfl
  | w :: ws, l, hw, h => by
    have hsub : ∀ x ∈ skipS l, okR D x := fun x hx => h x (by
      obtain ⟨k, -, h2⟩ := skipS_suf l
      rw [h2] at hx; exact List.mem_of_mem_drop hx)
    unfold behT
    rw [skipS_map hf l h]
    cases hs : skipS l with
    | nil => rfl
    | cons x l' =>
      rw [hs] at hsub
      have hx := hf.w (hsub x List.mem_cons_self) (pl_ge (wd_pl (hw w List.mem_cons_self)))
      have ih := behT_map hf ws l' (fun y hy => hw y (List.mem_cons_of_mem _ hy)) (fun y hy => hsub y (List.mem_cons_of_mem _ hy))
      simp only [List.map_cons, hx]
      split
      · exact ih
      · rfl
theorem phM_map {D : Dt} {f : It → It} (hf : LF D f) {ph : Phr} (hok : okP ph) {x : It} {l : List It} (h : ∀ y ∈ x :: l, okR D y) (h0 : 0 < x.1) : phM ph ((x :: l).map f) = (phM ph (x :: l)).map (List.map f) := by
  unfold phM
  split
  · exact behT_map hf _ _ hok.2.2.1 h
  · simp only [List.map_cons, hf.1 x (pos_ge h0)]
    split <;> rfl
theorem tryL_map {D : Dt} (hwf : WfD D) {f : It → It} (hf : LF D f) : ∀ (ps : List Nat) {x : It} {l : List It}, (∀ y ∈ x :: l, okR D y) → 0 < x.1 → tryL D ps ((x :: l).map f) = (tryL D ps (x :: l)).map (fun r => (r.1, r.2.map f))
  | [], _, _, _, _ => rfl
  | p :: ps, x, l, h, h0 => by
    unfold tryL
    cases hp : D.2.2.2[p]? with
    | none => exact tryL_map hwf hf ps h h0
    | some ph =>
      simp only
      rw [phM_map hf (hwf.2.2.1 ph (List.mem_of_getElem? hp)) h h0]
      cases phM ph (x :: l) with
      | none => exact tryL_map hwf hf ps h h0
      | some r => rfl
theorem tryL_some {D : Dt} : ∀ (ps : List Nat) {l r : List It} {p : Nat}, tryL D ps l = some (p, r) → ∃ ph, D.2.2.2[p]? = some ph ∧ phM ph l = some r
  | [], _, _, _, h => by cases h
  | q :: ps, l, r, p, h => by
    unfold tryL at h
    split at h
    · exact tryL_some ps h
    · rename_i ph hph
      split at h
      · rename_i r' hr'
        cases h
        exact ⟨ph, hph, hr'⟩
      · exact tryL_some ps h
theorem pushs_map {D : Dt} {f : It → It} (hf : LF D f) {x : It} {p : Nat} : ∀ (ws : List Int32) (out : List It), (∀ w ∈ ws, plOk w = true) → pushs (f x) p ws (out.map f) = (pushs x p ws out).map (List.map f)
  | [], out, _ => rfl
  | w :: ws, out, h => by
    unfold pushs
    rw [List.length_map]
    split
    · rw [← hf.2.2 x w p (pl_ge (h w List.mem_cons_self)), ← pushs_map hf ws _ (fun y hy => h y (List.mem_cons_of_mem _ hy))]
      simp
    · rfl
theorem phM_has {ph : Phr} {x : It} {l r : List It} (h : phM ph (x :: l) = some r) (hk : ph.1 ≠ 0) : hasN ph.1 (hd0 ph.2.1) x.1.toNatClampNeg = true := by
  unfold phM at h
  rw [if_neg hk] at h
  simp only at h
  split at h
  · assumption
  · cases h
theorem putL_map {D : Dt} {f : It → It} (hf : LF D f) {ph : Phr} (hok : okP ph) {p : Nat} {x : It} {out : List It} (h0 : 0 < x.1) (hw : wd x.1 = true) (hh : ph.1 ≠ 0 → hasN ph.1 (hd0 ph.2.1) x.1.toNatClampNeg = true) : putL ph p (f x) (out.map f) = ((putL ph p x out).1, (putL ph p x out).2.map f) := by
  unfold putL
  by_cases hk : ph.1 = 0
  · simp only [hk, if_true]
    rw [pushs_map hf _ _ hok.2.2.2.1]
    cases pushs x p ph.2.2 out <;> rfl
  · simp only [hk, if_false, hf.1 x (pos_ge h0), List.length_map]
    cases hc : chg ph.1 (hd0 ph.2.1) (hd0 ph.2.2) x.1.toNatClampNeg with
    | none => rfl
    | some c =>
      simp only
      have := (chg_word hok hk hw (hh hk) hc).1
      split
      · simp [hf.2.2 x (nI c) p (pl_ge (wd_pl this))]
      · rfl
theorem stepS_map {D : Dt} (hl : D.2.2.1.length ≤ 60) (hwf : WfD D) {f : It → It} (hf : LF D f) {ps : List Nat} {x : It} {t out : List It} {mt : Int32} (h : ∀ y ∈ x :: t, okR D y) : stepS D ps (f x) (t.map f) (out.map f) mt = ((stepS D ps x t out mt).1, (stepS D ps x t out mt).2.1.map f, (stepS D ps x t out mt).2.2.1.map f, (stepS D ps x t out mt).2.2.2) := by
  have hx := h x List.mem_cons_self
  unfold stepS
  by_cases h0 : 0 < x.1
  · rw [hf.1 x (pos_ge h0)]
    simp only [h0, if_true]
    rw [show f x :: t.map f = (x :: t).map f from rfl, tryL_map hwf hf ps h h0]
    cases htr : tryL D ps (x :: t) with
    | none =>
      simp only [stepR, Option.map_none, List.length_map]
      split <;> simp
    | some pr =>
      obtain ⟨p, r⟩ := pr
      obtain ⟨ph, hph, hm⟩ := tryL_some ps htr
      have hok := hwf.2.2.1 ph (List.mem_of_getElem? hph)
      simp only [stepR, Option.map_some, hph]
      rw [putL_map hf hok h0 (hx.wd hl h0) (phM_has hm)]
  · have h1 : ¬ 0 < (f x).1 := by
      by_cases h2 : x.1 < -1
      · exact fun z => absurd (hf.2.1 x hx h2) (pos_ge z)
      · rw [hf.1 x h2]; exact h0
    simp only [h0, h1, if_false, stepR, List.length_map]
    split <;> simp
theorem stepS_rest {D : Dt} (hwf : WfD D) {P : It → Prop} {ps : List Nat} {x : It} {t out : List It} {mt : Int32} (h : ∀ y ∈ t, P y) : ∀ y ∈ (stepS D ps x t out mt).2.1, P y := fun y hy => by
  obtain ⟨k, -, h2⟩ := (stepS_lt hwf (ps := ps) (x := x) (t := t) (out := out) (mt := mt)).2
  rw [h2] at hy
  exact h y (List.mem_of_mem_drop hy)
theorem matchS_map {D : Dt} (hl : D.2.2.1.length ≤ 60) (hwf : WfD D) {f : It → It} (hf : LF D f) {ps : List Nat} : ∀ (n : Nat) (l out : List It) (mt : Int32), (∀ y ∈ l, okR D y) → matchS D ps n (l.map f) (out.map f) mt = ((matchS D ps n l out mt).1, (matchS D ps n l out mt).2.1.map f, (matchS D ps n l out mt).2.2)
  | 0, _, _, _, _ => rfl
  | _ + 1, [], _, _, _ => rfl
  | n + 1, x :: t, out, mt, h => by
    have hs := stepS_map hl hwf hf (ps := ps) (out := out) (mt := mt) h
    have hr := stepS_rest hwf (P := okR D) (ps := ps) (x := x) (t := t) (out := out) (mt := mt) (fun y hy => h y (List.mem_cons_of_mem _ hy))
    simp only [List.map_cons, matchS]
    rw [hs]
    simp only
    split
    · exact matchS_map hl hwf hf n _ _ _ hr
    · rfl
