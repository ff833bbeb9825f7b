/-! the data stays well formed -/
theorem wf_addT {D : Dt} (h : WfD D) {k : Nat} {e : Int32} (hk : k ≤ D.1.length) (he : okE D e) (hn : (D.2.1 k).length < 200) : WfD (addT D k e) := by
  obtain ⟨a1, a2, a3, a4, a5⟩ := h
  refine ⟨fun t x hx => ?_, a2, a3, fun t ht => ?_, fun t => ?_⟩
  · have hx2 : x ∈ va_up D.2.1 k (D.2.1 k ++ [e]) t := hx
    by_cases hq : t = k
    · subst hq
      rw [va_up_self] at hx2
      rcases List.mem_append.mp hx2 with w | w
      · exact a1 t x w
      · rw [List.mem_singleton.mp w]; exact he
    · rw [va_up_ne _ _ hq] at hx2
      exact a1 t x hx2
  · show va_up D.2.1 k (D.2.1 k ++ [e]) t = []
    have ht2 : D.1.length < t := ht
    rw [va_up_ne _ _ (by omega)]; exact a4 t ht2
  · show (va_up D.2.1 k (D.2.1 k ++ [e]) t).length ≤ 200
    by_cases hq : t = k
    · subst hq; rw [va_up_self]; simp; omega
    · rw [va_up_ne _ _ hq]; exact a5 t
theorem wf_word {D : Dt} (h : WfD D) (hl : D.1.length ≤ 12) {t w : Int32} : WfD (fWord D t w).2 := by
  unfold fWord
  cases ht : tOf D t with
  | none => exact h
  | some k =>
    simp only
    split
    · rename_i hp
      split
      · rename_i hn
        exact wf_addT h (tOf_spec hl ht).1 (Or.inl hp) hn
      · exact h
    · exact h
theorem wf_off {D : Dt} (h : WfD D) (hl : D.1.length ≤ 12) {t : Int32} : WfD (fOff D t).2 := by
  unfold fOff
  cases ht : tOf D t with
  | none => exact h
  | some k =>
    simp only
    split
    · rename_i hn
      exact wf_addT h (tOf_spec hl ht).1 (Or.inr (Or.inl rfl)) hn
    · exact h
theorem wf_lib {D : Dt} (h : WfD D) {x : Int32} : WfD (fLib D x).2 := by
  unfold fLib
  split
  · split
    · obtain ⟨a1, a2, a3, a4, a5⟩ := h
      refine ⟨a1, a2, a3, fun t ht => a4 t ?_, a5⟩
      have : (D.1 ++ [x]).length < t := ht
      simp at this; omega
    · exact h
  · exact h
theorem wf_st {D : Dt} (h : WfD D) {k : Nat} {c hid : Bool} {x : Int32} (hk : k ≤ D.1.length) : WfD (fSt D k c x hid).2 := by
  unfold fSt
  split
  · rename_i hn
    obtain ⟨a1, a2, a3, a4, a5⟩ := h
    have mono : ∀ e, okE D e → okE (addS (addT D k (stE c (D.2.2.1.length + 1))) (c, x, hid, [])) e := fun e he => by
      rcases he with q | q | ⟨s, st, h1, h2⟩
      · exact Or.inl q
      · exact Or.inr (Or.inl q)
      · refine Or.inr (Or.inr ⟨s, st, ?_, h2⟩)
        show (D.2.2.1 ++ [((c, x, hid, []) : Stt)])[s]? = some st
        rw [List.getElem?_append_left (List.getElem?_eq_some_iff.mp h1).1]; exact h1
    refine ⟨fun t y hy => ?_, fun st hst p hp => ?_, a3, fun t ht => ?_, fun t => ?_⟩
    · have hy2 : y ∈ va_up D.2.1 k (D.2.1 k ++ [stE c (D.2.2.1.length + 1)]) t := hy
      by_cases hq : t = k
      · subst hq
        rw [va_up_self] at hy2
        rcases List.mem_append.mp hy2 with w | w
        · exact mono y (a1 t y w)
        · rw [List.mem_singleton.mp w]
          refine Or.inr (Or.inr ⟨D.2.2.1.length, (c, x, hid, []), ?_, ?_⟩)
          · show (D.2.2.1 ++ [((c, x, hid, []) : Stt)])[D.2.2.1.length]? = some (c, x, hid, [])
            simp
          · cases c
            · exact Or.inr ⟨rfl, rfl⟩
            · exact Or.inl ⟨rfl, rfl⟩
      · rw [va_up_ne _ _ hq] at hy2
        exact mono y (a1 t y hy2)
    · have hst2 : st ∈ D.2.2.1 ++ [((c, x, hid, []) : Stt)] := hst
      rcases List.mem_append.mp hst2 with w | w
      · exact a2 st w p hp
      · rw [List.mem_singleton.mp w] at hp; cases hp
    · show va_up D.2.1 k (D.2.1 k ++ [stE c (D.2.2.1.length + 1)]) t = []
      have ht2 : D.1.length < t := ht
      rw [va_up_ne _ _ (by omega)]; exact a4 t ht2
    · show (va_up D.2.1 k (D.2.1 k ++ [stE c (D.2.2.1.length + 1)]) t).length ≤ 200
      by_cases hq : t = k
      · subst hq; rw [va_up_self]; simp; omega
      · rw [va_up_ne _ _ hq]; exact a5 t
  · exact h
theorem wf_copy {D : Dt} (h : WfD D) (hl : D.1.length ≤ 12) {t x : Int32} {hid : Bool} : WfD (fCopy D t x hid).2 := by
  unfold fCopy
  cases ht : tOf D t with
  | none => exact h
  | some k =>
    simp only
    split
    · exact wf_st h (tOf_spec hl ht).1
    · exact h
theorem wf_rep {D : Dt} (h : WfD D) (hl : D.1.length ≤ 12) {t : Int32} : WfD (fRep D t).2 := by
  unfold fRep
  cases ht : tOf D t with
  | none => exact h
  | some k => exact wf_st h (tOf_spec hl ht).1
theorem kd3 {k : Int32} (h : kdOk k = true) : k = 0 ∨ k = 1 ∨ k = 2 := by
  unfold kdOk at h
  simp only [Bool.and_eq_true, decide_eq_true_eq] at h
  obtain ⟨n, hn, rfl⟩ := nI_of h.1
  have h2 := h.2
  rw [show (2 : Int32) = nI 2 from rfl, nI_ltI (by decide) hn] at h2
  rcases (show n = 0 ∨ n = 1 ∨ n = 2 by omega) with rfl | rfl | rfl
  · exact Or.inl rfl
  · exact Or.inr (Or.inl rfl)
  · exact Or.inr (Or.inr rfl)
theorem wf_phr {D : Dt} (h : WfD D) {s k w : Int32} : WfD (fPhr D s k w).2 := by
  unfold fPhr
  cases hs : nOf D.2.2.1.length s with
  | none => exact h
  | some j =>
    simp only
    cases hst : D.2.2.1[j]? with
    | none => exact h
    | some st =>
      simp only
      split
      · rename_i hkw
        rw [Bool.and_eq_true] at hkw
        split
        · obtain ⟨a1, a2, a3, a4, a5⟩ := h
          have hj := (List.getElem?_eq_some_iff.mp hst).1
          refine ⟨fun t e he => ?_, fun st' hst' p hp => ?_, fun ph hph => ?_, a4, a5⟩
          · rcases a1 t e he with q | q | ⟨s', st', h1, h2⟩
            · exact Or.inl q
            · exact Or.inr (Or.inl q)
            · by_cases hq : s' = j
              · subst hq
                rw [hst] at h1
                cases h1
                refine Or.inr (Or.inr ⟨s', (st.1, st.2.1, st.2.2.1, st.2.2.2 ++ [D.2.2.2.length]), ?_, h2⟩)
                show (D.2.2.1.set s' _)[s']? = _
                rw [List.getElem?_set_self hj]
              · refine Or.inr (Or.inr ⟨s', st', ?_, h2⟩)
                show (D.2.2.1.set j _)[s']? = _
                rw [List.getElem?_set_ne (fun z => hq z.symm)]; exact h1
          · have hst2 : st' ∈ D.2.2.1.set j (st.1, st.2.1, st.2.2.1, st.2.2.2 ++ [D.2.2.2.length]) := hst'
            show p < (D.2.2.2 ++ [_]).length
            rw [List.length_append]
            rcases List.mem_or_eq_of_mem_set hst2 with q | q
            · have := a2 st' q p hp
              simp; omega
            · rw [q] at hp
              rcases List.mem_append.mp hp with w | w
              · have := a2 st (List.mem_of_getElem? hst) p w
                simp; omega
              · simp at w; simp; omega
          · have hph2 : ph ∈ D.2.2.2 ++ [((k, [w], []) : Phr)] := hph
            rcases List.mem_append.mp hph2 with q | q
            · exact a3 ph q
            · rw [List.mem_singleton.mp q]
              exact ⟨kd3 hkw.1, by simp, fun x hx => by rw [List.mem_singleton.mp hx]; exact hkw.2, fun x hx => (by cases hx), fun _ => ⟨by simp, by simp, fun x hx => (by cases hx)⟩⟩
        · exact h
      · exact h
theorem wf_setP {D : Dt} (h : WfD D) {k : Nat} {ph : Phr} (hp : okP ph) : WfD (setP D k ph) := by
  obtain ⟨a1, a2, a3, a4, a5⟩ := h
  refine ⟨a1, fun st hst p hpp => ?_, fun x hx => ?_, a4, a5⟩
  · have := a2 st hst p hpp
    show p < (D.2.2.2.set k ph).length
    rw [List.length_set]; exact this
  · have hx2 : x ∈ D.2.2.2.set k ph := hx
    rcases List.mem_or_eq_of_mem_set hx2 with q | q
    · exact a3 x q
    · rw [q]; exact hp
theorem wf_from {D : Dt} (h : WfD D) {p w : Int32} : WfD (fFrom D p w).2 := by
  unfold fFrom
  cases hs : nOf D.2.2.2.length p with
  | none => exact h
  | some k =>
    simp only
    cases hph : D.2.2.2[k]? with
    | none => exact h
    | some ph =>
      simp only
      split
      · rename_i hp
        split
        · rename_i hz
          split
          · exact h
          · rename_i hw
            have hok := h.2.2.1 ph (List.mem_of_getElem? hph)
            refine wf_setP h ⟨hok.1, by simp, fun x hx => ?_, hok.2.2.2.1, fun z => absurd hz.1 z⟩
            rcases List.mem_append.mp hx with q | q
            · exact hok.2.2.1 x q
            · rw [List.mem_singleton.mp q]
              exact pl_wd hp (Int32.not_le.mp hw)
        · exact h
      · exact h
theorem wf_to {D : Dt} (h : WfD D) {p w : Int32} : WfD (fTo D p w).2 := by
  unfold fTo
  cases hs : nOf D.2.2.2.length p with
  | none => exact h
  | some k =>
    simp only
    cases hph : D.2.2.2[k]? with
    | none => exact h
    | some ph =>
      simp only
      have hok := h.2.2.1 ph (List.mem_of_getElem? hph)
      by_cases hz : ph.1 = 0
      · simp only [hz, if_true]
        split
        · rename_i hp
          split
          · refine wf_setP h ⟨Or.inl rfl, hok.2.1, hok.2.2.1, fun x hx => ?_, fun z => absurd rfl z⟩
            rcases List.mem_append.mp hx with q | q
            · exact hok.2.2.2.1 x q
            · rw [List.mem_singleton.mp q]; exact hp
          · exact h
        · exact h
      · simp only [hz, if_false]
        split
        · rename_i hp
          split
          · rename_i hl
            obtain ⟨k1, k2, k3⟩ := hok.2.2.2.2 hz
            have hall : ∀ x ∈ ph.2.2 ++ [w], wd x = true := fun x hx => by
              rcases List.mem_append.mp hx with q | q
              · exact k3 x q
              · rw [List.mem_singleton.mp q]; exact hp
            exact wf_setP h ⟨hok.1, hok.2.1, hok.2.2.1, fun x hx => wd_pl (hall x hx), fun _ => ⟨k1, (by have := hl; simp only [List.length_append, List.length_singleton]; omega), hall⟩⟩
          · exact h
        · exact h
def D0 : Dt := ([], fun _ => [], [], [])
theorem wf0 : WfD D0 := ⟨fun t e he => (by cases he), fun st hst => (by cases hst), fun ph hph => (by cases hph), fun t _ => rfl, fun t => Nat.zero_le _⟩
