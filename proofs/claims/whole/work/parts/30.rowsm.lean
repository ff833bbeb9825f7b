/-! the class's rows -/
abbrev It : Type := Int32 × Int32 × Int32 × Int32 × Int32 × Int32
def rowP (K N : TK) (R : TR) (r : Nat) : Prop := K r = 12 ∧ (R r 0 = some (r + 1) ∧ K (r + 1) = 20 ∧ N (r + 1) = 300) ∧ (R r 1 = some (r + 2) ∧ K (r + 2) = 20 ∧ N (r + 2) = 300) ∧ (R r 2 = some (r + 3) ∧ K (r + 3) = 20 ∧ N (r + 3) = 300) ∧ (R r 3 = some (r + 4) ∧ K (r + 4) = 20 ∧ N (r + 4) = 300) ∧ (R r 4 = some (r + 5) ∧ K (r + 5) = 20 ∧ N (r + 5) = 300) ∧ (R r 5 = some (r + 6) ∧ K (r + 6) = 21 ∧ N (r + 6) = 300)
def itAt (I : TI) (r j : Nat) (x : It) : Prop := I (r + 1) j = x.1 ∧ I (r + 2) j = x.2.1 ∧ I (r + 3) j = x.2.2.1 ∧ I (r + 4) j = x.2.2.2.1 ∧ I (r + 5) j = x.2.2.2.2.1 ∧ I (r + 6) j = x.2.2.2.2.2
def z01 (x : Int32) : Prop := x = 0 ∨ x = 1
def RowIs (I : TI) (r : Nat) (l : List It) : Prop := I r 6 = nI l.length ∧ l.length ≤ 300 ∧ ∀ (j : Nat) (x : It), l[j]? = some x → itAt I r j x ∧ z01 x.2.2.2.2.2
/-- nothing but the row changes -/
def offRow (I I' : TI) (r : Nat) : Prop := ∀ a, (a < r ∨ r + 6 < a) → I' a = I a
theorem offRow.rf {I : TI} {r : Nat} : offRow I I r := fun _ _ => rfl
theorem offRow.tr {I I' I'' : TI} {r : Nat} (h : offRow I I' r) (h2 : offRow I' I'' r) : offRow I I'' r := fun a ha => (h2 a ha).trans (h a ha)
theorem RowIs.off {I I' : TI} {r : Nat} {l : List It} (h : RowIs I r l) (hs : ∀ a, r ≤ a → a ≤ r + 6 → I' a = I a) : RowIs I' r l := by
  refine ⟨by rw [hs r (Nat.le_refl _) (by omega)]; exact h.1, h.2.1, fun j x hx => ?_⟩
  obtain ⟨h1, h2⟩ := h.2.2 j x hx
  refine ⟨?_, h2⟩
  unfold itAt at h1 ⊢
  rw [hs (r + 1) (by omega) (by omega), hs (r + 2) (by omega) (by omega), hs (r + 3) (by omega) (by omega), hs (r + 4) (by omega) (by omega), hs (r + 5) (by omega) (by omega), hs (r + 6) (by omega) (by omega)]
  exact h1
/-- what the six writes and the size do -/
def addI (I : TI) (r n : Nat) (x : It) : TI := fun a j => if a = r ∧ j = 6 then nI (n + 1) else if a = r + 1 ∧ j = n then x.1 else if a = r + 2 ∧ j = n then x.2.1 else if a = r + 3 ∧ j = n then x.2.2.1 else if a = r + 4 ∧ j = n then x.2.2.2.1 else if a = r + 5 ∧ j = n then x.2.2.2.2.1 else if a = r + 6 ∧ j = n then x.2.2.2.2.2 else I a j
theorem addI_row {I : TI} {r : Nat} {l : List It} {x : It} (h : RowIs I r l) (hn : l.length < 300) (hx : z01 x.2.2.2.2.2) : RowIs (addI I r l.length x) r (l ++ [x]) := by
  refine ⟨by simp [addI], by simp; omega, fun j y hy => ?_⟩
  by_cases hj : j < l.length
  · rw [List.getElem?_append_left hj] at hy
    obtain ⟨h1, h2⟩ := h.2.2 j y hy
    refine ⟨?_, h2⟩
    have hne : j ≠ l.length := by omega
    unfold itAt at h1 ⊢
    simp only [addI, hne, and_false, if_false]
    have e1 : ∀ k, ¬ (r + (k + 1) = r ∧ j = 6) := fun k q => by omega
    simp only [show ¬ (r + 1 = r ∧ j = 6) from e1 0, show ¬ (r + 2 = r ∧ j = 6) from e1 1, show ¬ (r + 3 = r ∧ j = 6) from e1 2, show ¬ (r + 4 = r ∧ j = 6) from e1 3, show ¬ (r + 5 = r ∧ j = 6) from e1 4, show ¬ (r + 6 = r ∧ j = 6) from e1 5, if_false]
    exact h1
  · rw [List.getElem?_append_right (by omega)] at hy
    have hj0 : j = l.length := by
      have := (List.getElem?_eq_some_iff.mp hy).1
      simp at this; omega
    subst hj0
    simp at hy
    subst hy
    refine ⟨?_, hx⟩
    unfold itAt addI
    simp
theorem addI_off {I : TI} {r n : Nat} {x : It} : offRow I (addI I r n x) r := fun a ha => by
  funext j
  have h0 : ¬ a = r := by omega
  have h1 : ¬ a = r + 1 := by omega
  have h2 : ¬ a = r + 2 := by omega
  have h3 : ¬ a = r + 3 := by omega
  have h4 : ¬ a = r + 4 := by omega
  have h5 : ¬ a = r + 5 := by omega
  have h6 : ¬ a = r + 6 := by omega
  simp [addI, h0, h1, h2, h3, h4, h5, h6]
section ROW
variable {l : Launch} {G : Gx} {d : Nat} {K N : TK} {I : TI} {R : TR} {L : TL} {sz : Nat}
theorem tX1_clear {r : Nat} (hP : rowP K N R r) : MtV l G yX1_clear cX1_clear 1 none d [.ref r] K N I R L sz (fun I' => RowIs I' r [] ∧ offRow I I' r) := by
  refine sX1_clear ⟨hP.1, fun I2 e2 => ?_⟩
  subst e2
  exact ⟨⟨u2_self _ _ _ _, by simp, fun j x h => by simp at h⟩, fun a ha => u2_ne _ _ (by omega)⟩
/-- a place that is there -/
def hasB (n : Nat) (x : Int32) : Bool := decide (¬ x < 0) && decide (¬ nI n ≤ x)
theorem hasB_nI {n j : Nat} (hj : j < 2 ^ 31) (hn : n < 2 ^ 31) : hasB n (nI j) = decide (j < n) := by
  unfold hasB
  have h1 : ¬ nI j < 0 := nI_pos hj
  rw [show decide (¬ nI j < 0) = true from by simp [h1], Bool.true_and, decide_eq_decide, nI_leI hn hj]
  omega
theorem hasB_spec {n : Nat} {x : Int32} (hn : n < 2 ^ 31) (h : hasB n x = true) : ∃ j, j < n ∧ x = nI j := by
  unfold hasB at h
  simp only [Bool.and_eq_true, decide_eq_true_eq] at h
  obtain ⟨j, hj, rfl⟩ := nI_of h.1
  exact ⟨j, by have := h.2; rw [nI_leI hn hj] at this; omega, rfl⟩
theorem tX1_has {r n : Nat} {x : Int32} (hP : K r = 12) (hn : I r 6 = nI n) : MtI l G yX1_has cX1_has 2 (some .boolean) d [.ref r, .int x] K N I R L sz (fun v I' => v = b2i (hasB n x) ∧ I' = I) := by
  refine sX1_has ⟨fun q => ⟨?_, rfl⟩, fun q => ⟨hP, fun q2 => ⟨?_, rfl⟩, fun q2 => ⟨?_, rfl⟩⟩⟩
  · rw [b2i_f (by simp [hasB, q])]
  · rw [hn] at q2; rw [b2i_f (by simp [hasB, q2])]
  · rw [hn] at q2; rw [b2i_t (by simp [hasB, q, q2])]
theorem tX1_code {r j : Nat} {t : List It} {x : It} (hP : rowP K N R r) (hl : RowIs I r t) (hx : t[j]? = some x) : MtI l G yX1_code cX1_code 2 (some .int) (d + 1) [.ref r, .int (nI j)] K N I R L sz (fun v I' => v = x.1 ∧ I' = I) := by
  have hj : j < t.length := (List.getElem?_eq_some_iff.mp hx).1
  have h3 := hl.2.1
  refine sX1_code ⟨hP.1, _, tX1_has hP.1 hl.1, fun v I' hv => ?_⟩
  obtain ⟨rfl, rfl⟩ := hv
  have hb : hasB t.length (nI j) = true := by rw [hasB_nI (by omega) (by omega)]; simp [hj]
  refine ⟨fun q => absurd hb (by rw [b2i_eq0] at q; simp [q]), fun _ => ⟨r + 1, hP.2.1.1, hP.2.1.2.1, by rw [hP.2.1.2.2]; exact vp_in_nI (by omega) (by decide), ?_, rfl⟩⟩
  rw [nI_clamp (by omega)]
  exact (hl.2.2 j x hx).1.1
theorem tX1_addEntry {r : Nat} {t : List It} {x1 x2 x3 x4 x5 : Int32} (hP : rowP K N R r) (hl : RowIs I r t) (hz : z01 x5) : MtI l G yX1_addEntry cX1_addEntry 6 (some .boolean) d [.ref r, .int x1, .int x2, .int x3, .int x4, .int x5] K N I R L sz (fun v I' => (t.length < 300 ∧ v = 1 ∧ I' = addI I r t.length (x1, x2, x3, 0, x4, x5)) ∨ (t.length = 300 ∧ v = 0 ∧ I' = I)) := by
  have h3 := hl.2.1
  have hlt : I r 6 < 300 ↔ t.length < 300 := by rw [hl.1]; exact nI_ltI (by omega) (b := 300) (by decide)
  obtain ⟨hK, ⟨p1, p2, p3⟩, ⟨p4, p5, p6⟩, ⟨p7, p8, p9⟩, ⟨q1, q2, q3⟩, ⟨q4, q5, q6⟩, ⟨q7, q8, q9⟩⟩ := hP
  refine sX1_addEntry ⟨hK, fun q => ?_, fun q => Or.inr ⟨by rw [hlt] at q; omega, rfl, rfl⟩⟩
  have hn : t.length < 300 := hlt.mp q
  have hin : vp_in (I r 6) 300 := by rw [hl.1]; exact vp_in_nI hn (by decide)
  have hc : (I r 6).toNatClampNeg = t.length := by rw [hl.1]; exact nI_clamp (by omega)
  refine ⟨r + 1, p1, p2, by rw [p3]; exact hin, fun I6 e6 => ?_⟩
  have f6 : I6 r 6 = I r 6 := by rw [e6, u2_ne _ _ (by omega)]
  refine ⟨r + 2, p4, p5, by rw [f6, p6]; exact hin, fun I11 e11 => ?_⟩
  have f11 : I11 r 6 = I r 6 := by rw [e11, u2_ne _ _ (by omega), f6]
  refine ⟨r + 3, p7, p8, by rw [f11, p9]; exact hin, fun I16 e16 => ?_⟩
  have f16 : I16 r 6 = I r 6 := by rw [e16, u2_ne _ _ (by omega), f11]
  refine ⟨r + 4, q1, q2, by rw [f16, q3]; exact hin, fun I21 e21 => ?_⟩
  have f21 : I21 r 6 = I r 6 := by rw [e21, u2_ne _ _ (by omega), f16]
  refine ⟨r + 5, q4, q5, by rw [f21, q6]; exact hin, fun I26 e26 => ?_⟩
  have f26 : I26 r 6 = I r 6 := by rw [e26, u2_ne _ _ (by omega), f21]
  refine ⟨r + 6, q7, q8, by rw [f26, q9]; exact hin, hz, fun I32 e32 I33 e33 => ?_⟩
  have f32 : I32 r 6 = I r 6 := by rw [e32, u2_ne _ _ (by omega), f26]
  refine Or.inl ⟨hn, rfl, ?_⟩
  rw [e33, f32, e32, f26, e26, f21, e21, f16, e16, f11, e11, f6, e6, hc, hl.1, nI_1]
  funext a j
  simp only [u2_eq, addI]
  by_cases h0 : a = r ∧ j = 6
  · simp [h0]
  · simp only [h0, if_false]
    by_cases hj : j = t.length
    · subst hj
      by_cases a1 : a = r + 1
      · subst a1; simp
      by_cases a2 : a = r + 2
      · subst a2; simp
      by_cases a3 : a = r + 3
      · subst a3; simp
      by_cases a4 : a = r + 4
      · subst a4; simp
      by_cases a5 : a = r + 5
      · subst a5; simp
      simp [a1, a2, a3, a4, a5]
    · simp [hj]
end ROW
