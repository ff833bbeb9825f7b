/-! what the rows of a run are made of -/
theorem pushs_all {P : It → Prop} {x : It} {p : Nat} : ∀ (ws : List Int32) (out o' : List It), (∀ w ∈ ws, P (putIt x w p)) → (∀ y ∈ out, P y) → pushs x p ws out = some o' → ∀ y ∈ o', P y
  | [], out, o', _, h, he => by cases he; exact h
  | w :: ws, out, o', hw, h, he => by
    unfold pushs at he
    split at he
    · refine pushs_all ws _ o' (fun v hv => hw v (List.mem_cons_of_mem _ hv)) (fun y hy => ?_) he
      rcases List.mem_append.mp hy with q | q
      · exact h y q
      · rw [List.mem_singleton.mp q]; exact hw w List.mem_cons_self
    · cases he
theorem all_snoc {P : It → Prop} {out : List It} {x : It} (h : ∀ y ∈ out, P y) (hx : P x) : ∀ y ∈ out ++ [x], P y := fun y hy => by
  rcases List.mem_append.mp hy with q | q
  · exact h y q
  · rw [List.mem_singleton.mp q]; exact hx
theorem stepS_all {D : Dt} (hl : D.2.2.1.length ≤ 60) (hwf : WfD D) {P : It → Prop} {ps : List Nat} {x : It} {t out : List It} {mt : Int32} (hx : okR D x) (hPx : P x) (hP : ∀ (c : Int32) (p : Nat), plOk c = true → P (putIt x c p)) (h : ∀ y ∈ out, P y) : ∀ y ∈ (stepS D ps x t out mt).2.2.1, P y := by
  unfold stepS
  by_cases h0 : 0 < x.1
  · simp only [h0, if_true]
    cases htr : tryL D ps (x :: t) with
    | none =>
      simp only [stepR]
      split
      · exact all_snoc h hPx
      · exact h
    | some pr =>
      obtain ⟨p, r⟩ := pr
      obtain ⟨ph, hph, hm⟩ := tryL_some ps htr
      have hok := hwf.2.2.1 ph (List.mem_of_getElem? hph)
      simp only [stepR, hph]
      unfold putL
      by_cases hk : ph.1 = 0
      · simp only [hk, if_true]
        cases hp : pushs x p ph.2.2 out with
        | none => exact h
        | some o' => exact pushs_all _ _ _ (fun w hw => hP w p (hok.2.2.2.1 w hw)) h hp
      · simp only [hk, if_false]
        cases hc : chg ph.1 (hd0 ph.2.1) (hd0 ph.2.2) x.1.toNatClampNeg with
        | none => exact h
        | some c =>
          simp only
          split
          · exact all_snoc h (hP _ _ (wd_pl (chg_word hok hk (hx.wd hl h0) (phM_has hm hk) hc).1))
          · exact h
  · simp only [h0, if_false, stepR]
    split
    · exact all_snoc h hPx
    · exact h
theorem matchS_all {D : Dt} (hl : D.2.2.1.length ≤ 60) (hwf : WfD D) {P : It → Prop} {ps : List Nat} : ∀ (n : Nat) (l out : List It) (mt : Int32), (∀ y ∈ l, okR D y ∧ P y ∧ ∀ (c : Int32) (p : Nat), plOk c = true → P (putIt y c p)) → (∀ y ∈ out, P y) → ∀ y ∈ (matchS D ps n l out mt).2.1, P y
  | 0, _, _, _, _, h => h
  | _ + 1, [], _, _, _, h => h
  | n + 1, x :: t, out, mt, hl2, h => by
    obtain ⟨h1, h2, h3⟩ := hl2 x List.mem_cons_self
    have hs := stepS_all hl hwf (ps := ps) (t := t) (mt := mt) h1 h2 h3 h
    have hr := stepS_rest hwf (ps := ps) (x := x) (t := t) (out := out) (mt := mt) (fun y hy => hl2 y (List.mem_cons_of_mem _ hy))
    unfold matchS
    split
    · exact matchS_all hl hwf n _ _ _ hr hs
    · exact hs
/-- an item of a row, with its sign of suppression -/
def okZ (D : Dt) (x : It) : Prop := okR D x ∧ z01 x.2.2.2.2.2
theorem okZ.put {D : Dt} {x : It} (h : okZ D x) (c : Int32) (p : Nat) (hc : plOk c = true) : okZ D (putIt x c p) := ⟨Or.inl hc, h.2⟩
theorem okZ.up {D : Dt} {x : It} (h : okZ D x) (b : Bool) : okZ D (upIt b x) := ⟨h.1, by
  unfold upIt
  simp only
  split
  · exact Or.inr rfl
  · exact h.2⟩
theorem matchS_ok {D : Dt} (hl : D.2.2.1.length ≤ 60) (hwf : WfD D) {ps : List Nat} {n : Nat} {l : List It} {mt : Int32} (h : ∀ y ∈ l, okZ D y) : ∀ y ∈ (matchS D ps n l [] mt).2.1, okZ D y :=
  matchS_all hl hwf n l [] mt (fun y hy => ⟨(h y hy).1, h y hy, (h y hy).put⟩) (fun y hy => by cases hy)
theorem cp_st : ∀ n, n < 61 → 0 < n → cpOf (-1000 - nI n) = some (n - 1) ∧ cpOf (-2000 - nI n) = none ∧ cv (-1000 - nI n) = -100 - nI n ∧ ¬ (-10 - nI n) = 0 := by decide +kernel
theorem cpOf_pl {e : Int32} (h : plOk e = true) : cpOf e = none := by
  unfold cpOf
  rw [if_neg]
  intro q
  exact plOk_ne h q.1
/-- what an entry is -/
theorem okE_none {D : Dt} (hl : D.2.2.1.length ≤ 60) {e : Int32} (h : okE D e) (hc : cpOf e = none) (t i : Nat) : okZ D (ownIt e t i) := by
  refine ⟨?_, Or.inl rfl⟩
  rcases h with h | h | ⟨s, st, h1, h2⟩
  · exact Or.inl h
  · exact Or.inr (Or.inl h)
  · have hs := (List.getElem?_eq_some_iff.mp h1).1
    rcases h2 with ⟨h2, h3⟩ | ⟨h2, h3⟩
    · rw [h3, (cp_st (s + 1) (by omega) (by omega)).1] at hc; cases hc
    · exact Or.inr (Or.inr ⟨s, st, h1, h2, h3⟩)
theorem okE_some {D : Dt} (hl : D.2.2.1.length ≤ 60) {e : Int32} {s : Nat} (h : okE D e) (hc : cpOf e = some s) : ∃ st, D.2.2.1[s]? = some st ∧ st.1 = true ∧ e = -1000 - nI (s + 1) := by
  rcases h with h | h | ⟨s', st, h1, h2⟩
  · rw [cpOf_pl h] at hc; cases hc
  · rw [h, show cpOf (-3000) = none by decide] at hc; cases hc
  · have hs := (List.getElem?_eq_some_iff.mp h1).1
    have h4 := cp_st (s' + 1) (by omega) (by omega)
    rcases h2 with ⟨h2, h3⟩ | ⟨h2, h3⟩
    · rw [h3, h4.1] at hc
      have : s' = s := by simpa using hc
      subst this
      exact ⟨st, h1, h2, h3⟩
    · rw [h3, h4.2.1] at hc; cases hc
theorem entS_ok {D : Dt} (hl : D.2.2.1.length ≤ 60) {cpf : Nat → Int32 → Int32 → ResT} {t : Nat} (hc : ∀ s cp mt, ∀ y ∈ (cpf s cp mt).2.1, okZ D y) : ∀ (i : Nat) (es : List Int32) (out : List It) (cp mt : Int32), (∀ e ∈ es, okE D e) → (∀ y ∈ out, okZ D y) → ∀ y ∈ (entS cpf t i es out cp mt).2.1, okZ D y
  | _, [], out, cp, mt, _, h => h
  | i, e :: es, out, cp, mt, he, h => by
    have ih := fun out cp mt => entS_ok hl (t := t) hc (i + 1) es out cp mt (fun y hy => he y (List.mem_cons_of_mem _ hy))
    unfold entS
    cases hm : cpOf e with
    | none =>
      simp only
      split
      · exact ih _ _ _ (all_snoc h (okE_none hl (he e List.mem_cons_self) hm t i))
      · intro y hy; cases hy
    | some s =>
      simp only
      split
      · split
        · refine ih _ _ _ (fun y hy => ?_)
          rcases List.mem_append.mp hy with q | q
          · exact h y q
          · exact hc _ _ _ y q
        · intro y hy; cases hy
      · intro y hy; cases hy
theorem cpS_ok {D : Dt} (hl : D.2.2.1.length ≤ 60) (hwf : WfD D) : ∀ (n : Nat) (op : List Nat) (s : Nat) (cp mt : Int32), ∀ y ∈ (cpS D n op s cp mt).2.1, okZ D y
  | 0, _, _, _, _ => fun y hy => by cases hy
  | n + 1, op, s, cp, mt => by
    have ih := fun op => cpS_ok hl hwf n op
    unfold cpS
    split
    · split
      · intro y hy; cases hy
      · rename_i st hst
        split
        · intro y hy; cases hy
        · rename_i t ht
          split
          · intro y hy; cases hy
          · have hE := entS_ok hl (t := t) (ih (op ++ [t])) 0 (D.2.1 t) [] (cp + 1) mt (hwf.1 t) (fun y hy => by cases hy)
            unfold cpM
            split
            · unfold cpE
              split
              · intro y hy
                obtain ⟨z, hz, rfl⟩ := List.mem_map.mp hy
                exact (matchS_ok hl hwf hE z hz).up _
              · intro y hy; cases hy
            · exact hE
    · intro y hy; cases hy
/-! without a fault there is no ring -/
theorem entS_ring {cpf : Nat → Int32 → Int32 → ResT} {t : Nat} : ∀ (i : Nat) (es : List Int32) (out : List It) (cp mt : Int32), (entS cpf t i es out cp mt).1 = 0 → (entS cpf t i es out cp mt).2.2.2.2 = []
  | _, [], out, cp, mt, _ => rfl
  | i, e :: es, out, cp, mt, h => by
    unfold entS at h ⊢
    cases hm : cpOf e with
    | none =>
      rw [hm] at h
      simp only at h ⊢
      split at h
      · rw [if_pos (by assumption)]; exact entS_ring _ _ _ _ _ h
      · exact absurd h (show ¬ (-3 : Int32) = 0 by decide)
    | some s =>
      rw [hm] at h
      simp only at h ⊢
      split at h
      · rename_i h1
        rw [if_pos h1]
        split at h
        · rename_i h2
          rw [if_pos h2]
          exact entS_ring _ _ _ _ _ h
        · exact absurd h (show ¬ (-3 : Int32) = 0 by decide)
      · rename_i h1
        exact absurd h h1
theorem cpM_ring {D : Dt} {st : Stt} {r : ResT} (h : (cpM D st r).1 = 0) : (cpM D st r).2.2.2.2 = [] := by
  unfold cpM at h ⊢
  split at h
  · rename_i h1
    rw [if_pos h1]
    unfold cpE
    split <;> rfl
  · rename_i h1
    exact absurd h h1
theorem cpS_ring {D : Dt} : ∀ (n : Nat) (op : List Nat) (s : Nat) (cp mt : Int32), (cpS D n op s cp mt).1 = 0 → (cpS D n op s cp mt).2.2.2.2 = []
  | 0, _, _, _, _, _ => rfl
  | n + 1, op, s, cp, mt, h => by
    unfold cpS at h ⊢
    by_cases h0 : cp < 100
    · simp only [h0, if_true] at h ⊢
      cases hst : D.2.2.1[s]? with
      | none => rfl
      | some st =>
        simp only [hst] at h ⊢
        cases ht : tNm D st.2.1 with
        | none => rfl
        | some t =>
          simp only [ht] at h ⊢
          by_cases h1 : t ∈ op
          · rw [if_pos h1] at h; exact absurd h (show ¬ (-1 : Int32) = 0 by decide)
          · rw [if_neg h1] at h ⊢; exact cpM_ring h
    · simp only [h0, if_false]
/-! cutting at replaces and offs -/
theorem matchS_fuel {D : Dt} (hwf : WfD D) {ps : List Nat} : ∀ (n m : Nat) (l out : List It) (mt : Int32), l.length ≤ n → l.length ≤ m → matchS D ps n l out mt = matchS D ps m l out mt
  | 0, m, [], out, mt, _, _ => by cases m <;> rfl
  | 0, _, _ :: _, _, _, h, _ => by simp at h
  | n + 1, m, [], out, mt, _, _ => by cases m <;> rfl
  | n + 1, 0, _ :: _, _, _, _, h => by simp at h
  | n + 1, m + 1, x :: t, out, mt, h1, h2 => by
    have hlt := (stepS_lt hwf (ps := ps) (x := x) (t := t) (out := out) (mt := mt)).1
    simp only [List.length_cons] at h1 h2
    unfold matchS
    split
    · exact matchS_fuel hwf n m _ _ _ (by omega) (by omega)
    · rfl
/-- a cut ends a match -/
theorem skipS_app {c : It} (hc : c.1 < -1) {l2 : List It} : ∀ (l : List It), skipS (l ++ c :: l2) = skipS l ++ c :: l2
  | [] => by
    rw [List.nil_append, show skipS (c :: l2) = if c.1 = 0 ∨ c.1 = -1 then skipS l2 else c :: l2 from rfl, if_neg]
    · rfl
    · intro z; rcases z with z | z <;> rw [z] at hc <;> exact absurd hc (by decide)
  | x :: l => by
    simp only [List.cons_append, skipS]
    split
    · exact skipS_app hc l
    · rfl
theorem behT_app {c : It} (hc : c.1 < -1) {l2 : List It} : ∀ (ws : List Int32) (l : List It), (∀ w ∈ ws, wd w = true) → behT ws (l ++ c :: l2) = (behT ws l).map (fun r => r ++ c :: l2)
  | [], l, _ => rfl
  | w :: ws, l, hw => by
    unfold behT
    rw [skipS_app hc]
    cases hs : skipS l with
    | nil =>
      simp only [List.nil_append, Option.map_none]
      rw [if_neg]
      intro z; rw [z] at hc; exact pl_ge (wd_pl (hw w List.mem_cons_self)) hc
    | cons x l' =>
      simp only [List.cons_append]
      split
      · exact behT_app hc ws l' (fun y hy => hw y (List.mem_cons_of_mem _ hy))
      · rfl
theorem phM_app {c : It} (hc : c.1 < -1) {l2 : List It} {ph : Phr} (hok : okP ph) {x : It} {l : List It} : phM ph (x :: l ++ c :: l2) = (phM ph (x :: l)).map (fun r => r ++ c :: l2) := by
  unfold phM
  split
  · exact behT_app hc _ _ hok.2.2.1
  · simp only [List.cons_append]
    split <;> rfl
theorem tryL_app {D : Dt} (hwf : WfD D) {c : It} (hc : c.1 < -1) {l2 : List It} : ∀ (ps : List Nat) {x : It} {l : List It}, tryL D ps (x :: l ++ c :: l2) = (tryL D ps (x :: l)).map (fun r => (r.1, r.2 ++ c :: l2))
  | [], _, _ => rfl
  | p :: ps, x, l => by
    unfold tryL
    cases hp : D.2.2.2[p]? with
    | none => exact tryL_app hwf hc ps
    | some ph =>
      simp only
      rw [phM_app hc (hwf.2.2.1 ph (List.mem_of_getElem? hp))]
      cases phM ph (x :: l) with
      | none => exact tryL_app hwf hc ps
      | some r => rfl
theorem stepS_app {D : Dt} (hwf : WfD D) {c : It} (hc : c.1 < -1) {l2 : List It} {ps : List Nat} {x : It} {t out : List It} {mt : Int32} : stepS D ps x (t ++ c :: l2) out mt = ((stepS D ps x t out mt).1, (stepS D ps x t out mt).2.1 ++ c :: l2, (stepS D ps x t out mt).2.2) := by
  unfold stepS
  by_cases h0 : 0 < x.1
  · simp only [h0, if_true]
    rw [show x :: (t ++ c :: l2) = x :: t ++ c :: l2 from rfl, tryL_app hwf hc]
    cases htr : tryL D ps (x :: t) with
    | none =>
      simp only [stepR, Option.map_none]
      split <;> rfl
    | some pr =>
      obtain ⟨p, r⟩ := pr
      obtain ⟨ph, hph, hm⟩ := tryL_some ps htr
      simp only [stepR, Option.map_some, hph]
  · simp only [h0, if_false, stepR]
    split <;> rfl
def thenC (m : Int32 × List It × Int32) (k : List It → Int32 → Int32 × List It × Int32) : Int32 × List It × Int32 := if m.1 = 0 then k m.2.1 m.2.2 else m
theorem matchC_split {D : Dt} (hwf : WfD D) {c : It} (hc : c.1 < -1) {l2 : List It} {ps : List Nat} : ∀ (n n1 n2 : Nat) (l1 out : List It) (mt : Int32), (∀ y ∈ l1, ¬ y.1 < -1) → l1.length + 1 + l2.length ≤ n → l1.length ≤ n1 → l2.length ≤ n2 → matchC D n ps (l1 ++ c :: l2) out mt = thenC (matchS D ps n1 l1 out mt) (fun o m => matchC D n2 (cutP D c.1) l2 o m) := by
  have hfu : ∀ (n m : Nat) (ps : List Nat) (l out : List It) (mt : Int32), l.length ≤ n → l.length ≤ m → matchC D n ps l out mt = matchC D m ps l out mt := by
    intro n
    induction n with
    | zero =>
      intro m ps l out mt h1 h2
      cases l with
      | nil => cases m <;> rfl
      | cons x t => simp at h1
    | succ n ih =>
      intro m ps l out mt h1 h2
      cases l with
      | nil => cases m <;> rfl
      | cons x t =>
        cases m with
        | zero => simp at h2
        | succ m =>
          have hlt := (stepS_lt hwf (ps := ps) (x := x) (t := t) (out := out) (mt := mt)).1
          simp only [List.length_cons] at h1 h2
          unfold matchC
          split
          · exact ih m _ _ _ _ (by omega) (by omega)
          · split
            · exact ih m _ _ _ _ (by omega) (by omega)
            · rfl
  intro n
  induction n with
  | zero => intro n1 n2 l1 out mt _ h; omega
  | succ n ih =>
    intro n1 n2 l1 out mt hn h h1 h2
    cases l1 with
    | nil =>
      have : matchS D ps n1 [] out mt = (0, out, mt) := by cases n1 <;> rfl
      rw [this]
      simp only [List.nil_append, matchC, hc, if_true, thenC]
      exact hfu _ _ _ _ _ _ (by simp at h; omega) h2
    | cons x t =>
      cases n1 with
      | zero => simp at h1
      | succ n1 =>
        have hx := hn x List.mem_cons_self
        have hlt := (stepS_lt hwf (ps := ps) (x := x) (t := t) (out := out) (mt := mt)).1
        have hr := stepS_rest hwf (ps := ps) (x := x) (t := t) (out := out) (mt := mt) (fun y hy => hn y (List.mem_cons_of_mem _ hy))
        simp only [List.length_cons] at h h1
        simp only [List.cons_append, matchC, hx, if_false, matchS]
        rw [stepS_app hwf hc]
        simp only
        split
        · exact ih n1 n2 _ _ _ hr (by omega) (by omega) h2
        · rename_i h3
          unfold thenC
          rw [if_neg h3]
theorem matchC_end {D : Dt} (hwf : WfD D) {ps : List Nat} : ∀ (n n1 : Nat) (l1 out : List It) (mt : Int32), (∀ y ∈ l1, ¬ y.1 < -1) → l1.length ≤ n → l1.length ≤ n1 → matchC D n ps l1 out mt = matchS D ps n1 l1 out mt
  | 0, n1, [], out, mt, _, _, _ => by cases n1 <;> rfl
  | 0, _, _ :: _, _, _, _, h, _ => by simp at h
  | n + 1, n1, [], out, mt, _, _, _ => by cases n1 <;> rfl
  | n + 1, 0, _ :: _, _, _, _, _, h => by simp at h
  | n + 1, n1 + 1, x :: t, out, mt, hn, h, h1 => by
    have hx := hn x List.mem_cons_self
    have hlt := (stepS_lt hwf (ps := ps) (x := x) (t := t) (out := out) (mt := mt)).1
    have hr := stepS_rest hwf (ps := ps) (x := x) (t := t) (out := out) (mt := mt) (fun y hy => hn y (List.mem_cons_of_mem _ hy))
    simp only [List.length_cons] at h h1
    simp only [matchC, hx, if_false, matchS]
    split
    · exact matchC_end hwf n n1 _ _ _ hr (by omega) (by omega)
    · rfl
