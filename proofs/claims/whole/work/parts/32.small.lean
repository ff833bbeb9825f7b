/-! words, texts, statements of the class: shapes, contents, small methods -/
def wrdP (K N : TK) (R : TR) (a : Nat) : Prop := K a = 15 ∧ R a 0 = some (a + 1) ∧ K (a + 1) = 20 ∧ N (a + 1) = 10
def phrP (K N : TK) (R : TR) (a : Nat) : Prop := K a = 11 ∧ R a 2 = some (a + 1) ∧ wrdP K N R (a + 1) ∧ R a 3 = some (a + 3) ∧ wrdP K N R (a + 3)
def stmP (K N : TK) (R : TR) (a : Nat) : Prop := K a = 13 ∧ R a 4 = some (a + 1) ∧ K (a + 1) = 23 ∧ N (a + 1) = 8
def txtP (K N : TK) (R : TR) (a : Nat) : Prop := K a = 14 ∧ R a 2 = some (a + 1) ∧ rowP K N R (a + 1) ∧ R a 3 = some (a + 8) ∧ K (a + 8) = 20 ∧ N (a + 8) = 200
/-- a list of ints at an array -/
def ListAt (f : Nat → Int32) (l : List Int32) : Prop := ∀ (j : Nat) (x : Int32), l[j]? = some x → f j = x
theorem ListAt.nil {f : Nat → Int32} : ListAt f [] := fun j x h => by simp at h
theorem ListAt.push {f : Nat → Int32} {l : List Int32} {x : Int32} (h : ListAt f l) : ListAt (va_up f l.length x) (l ++ [x]) := by
  intro j y hy
  by_cases hj : j < l.length
  · rw [List.getElem?_append_left hj] at hy
    rw [va_up_ne _ _ (by omega)]; exact h j y hy
  · rw [List.getElem?_append_right (by omega)] at hy
    have hj0 : j = l.length := by
      have := (List.getElem?_eq_some_iff.mp hy).1
      simp at this; omega
    subst hj0
    simp at hy
    rw [va_up_self]; exact hy
def WrdD (I : TI) (a : Nat) (l : List Int32) : Prop := I a 1 = nI l.length ∧ l.length ≤ 10 ∧ ListAt (I (a + 1)) l
theorem WrdD.off {I I' : TI} {a : Nat} {l : List Int32} (h : WrdD I a l) (h0 : I' a = I a) (h1 : I' (a + 1) = I (a + 1)) : WrdD I' a l := by
  unfold WrdD; rw [h0, h1]; exact h
/-- what appending a word does -/
def wapp (I : TI) (a n : Nat) (x : Int32) : TI := u2 (u2 I (a + 1) n x) a 1 (nI (n + 1))
theorem wapp_D {I : TI} {a : Nat} {l : List Int32} {x : Int32} (h : WrdD I a l) (hn : l.length < 10) : WrdD (wapp I a l.length x) a (l ++ [x]) := by
  refine ⟨by simp [wapp, u2_self], by simp; omega, ?_⟩
  unfold wapp
  rw [u2_ne _ _ (by omega), u2_at]
  exact h.2.2.push
theorem wapp_off {I : TI} {a n b : Nat} {x : Int32} (h0 : b ≠ a) (h1 : b ≠ a + 1) : wapp I a n x b = I b := by
  unfold wapp
  rw [u2_ne _ _ h0, u2_ne _ _ h1]
section SMALL
variable {l : Launch} {G : Gx} {d : Nat} {K N : TK} {I : TI} {R : TR} {L : TL} {sz : Nat}
theorem tX4_isFull {a : Nat} {t : List Int32} (hP : wrdP K N R a) (h : WrdD I a t) : MtI l G yX4_isFull cX4_isFull 1 (some .boolean) d [.ref a] K N I R L sz (fun v I' => v = b2i (decide (10 ≤ t.length)) ∧ I' = I) := by
  obtain ⟨h1, h2, h3, h4⟩ := hP
  have hlt : I a 1 < nI (N (a + 1)) ↔ t.length < 10 := by rw [h.1, h4]; exact nI_ltI (by have := h.2.1; omega) (by decide)
  refine sX4_isFull ⟨h1, a + 1, h2, h3, fun q => ⟨?_, rfl⟩, fun q => ⟨?_, rfl⟩⟩
  · rw [hlt] at q; rw [b2i_f (by simp; omega)]
  · rw [hlt] at q; rw [b2i_t (by simp; omega)]
theorem tX4_append {a : Nat} {t : List Int32} {x : Int32} (hP : wrdP K N R a) (h : WrdD I a t) (hn : t.length < 10) : MtV l G yX4_append cX4_append 2 none (d + 1) [.ref a, .int x] K N I R L sz (fun I' => I' = wapp I a t.length x) := by
  refine sX4_append ⟨hP.1, _, tX4_isFull hP h, fun v I' hv => ?_⟩
  obtain ⟨rfl, rfl⟩ := hv
  refine ⟨fun z => absurd z (by rw [b2i_f (by simp; omega)]; decide), fun _ => ⟨a + 1, hP.2.1, hP.2.2.1, by rw [h.1, hP.2.2.2]; exact vp_in_nI hn (by decide), fun I15 e15 I16 e16 => ?_⟩⟩
  rw [e16, e15, u2_ne _ _ (by omega), h.1, nI_clamp (by omega), nI_1]
  rfl
theorem tX4_get {a j : Nat} {t : List Int32} {x : Int32} (hP : wrdP K N R a) (h : WrdD I a t) (hx : t[j]? = some x) : MtI l G yX4_get cX4_get 2 (some .int) d [.ref a, .int (nI j)] K N I R L sz (fun v I' => v = x ∧ I' = I) := by
  have hj : j < t.length := (List.getElem?_eq_some_iff.mp hx).1
  have h3 := h.2.1
  refine sX4_get ⟨fun q => absurd q (nI_pos (by omega)), fun _ => ⟨hP.1, fun q => absurd q (by rw [h.1]; exact nI_ge hj (by omega)), fun _ => ⟨a + 1, hP.2.1, hP.2.2.1, by rw [hP.2.2.2]; exact vp_in_nI (by omega) (by decide), ?_, rfl⟩⟩⟩
  rw [nI_clamp (by omega)]
  exact h.2.2 j x hx
/-- a text's entries -/
def TxE (I : TI) (a : Nat) (l : List Int32) : Prop := I a 4 = nI l.length ∧ l.length ≤ 200 ∧ ListAt (I (a + 8)) l
def tapp (I : TI) (a n : Nat) (x : Int32) : TI := u2 (u2 I (a + 8) n x) a 4 (nI (n + 1))
theorem tapp_D {I : TI} {a : Nat} {l : List Int32} {x : Int32} (h : TxE I a l) (hn : l.length < 200) : TxE (tapp I a l.length x) a (l ++ [x]) := by
  refine ⟨by simp [tapp, u2_self], by simp; omega, ?_⟩
  unfold tapp
  rw [u2_ne _ _ (by omega), u2_at]
  exact h.2.2.push
theorem tapp_off {I : TI} {a n b : Nat} {x : Int32} (h0 : b ≠ a) (h1 : b ≠ a + 8) : tapp I a n x b = I b := by
  unfold tapp
  rw [u2_ne _ _ h0, u2_ne _ _ h1]
theorem tapp_k {I : TI} {a n k : Nat} {x : Int32} (hk : k ≠ 4) : tapp I a n x a k = I a k := by
  unfold tapp
  rw [u2_nk _ _ hk, u2_ne _ _ (by omega)]
theorem tX3_append {a : Nat} {t : List Int32} {x : Int32} (hP : txtP K N R a) (h : TxE I a t) : MtI l G yX3_append cX3_append 2 (some .boolean) d [.ref a, .int x] K N I R L sz (fun v I' => (t.length < 200 ∧ v = 1 ∧ I' = tapp I a t.length x) ∨ (t.length = 200 ∧ v = 0 ∧ I' = I)) := by
  obtain ⟨h1, h2, h3, h4, h5, h6⟩ := hP
  have h7 := h.2.1
  have hlt : I a 4 < nI (N (a + 8)) ↔ t.length < 200 := by rw [h.1, h6]; exact nI_ltI (by omega) (by decide)
  refine sX3_append ⟨h1, a + 8, h4, h5, fun q => ⟨by rw [h.1, h6]; exact vp_in_nI (hlt.mp q) (by decide), fun I6 e6 I7 e7 => Or.inl ⟨hlt.mp q, rfl, ?_⟩⟩, fun q => Or.inr ⟨by rw [hlt] at q; omega, rfl, rfl⟩⟩
  rw [e7, e6, u2_ne _ _ (by omega), h.1, nI_clamp (by omega), nI_1]
  rfl
theorem tX3_entry {a j : Nat} {t : List Int32} {x : Int32} (hP : txtP K N R a) (h : TxE I a t) (hx : t[j]? = some x) : MtI l G yX3_entry cX3_entry 2 (some .int) d [.ref a, .int (nI j)] K N I R L sz (fun v I' => v = x ∧ I' = I) := by
  have hj : j < t.length := (List.getElem?_eq_some_iff.mp hx).1
  have h3 := h.2.1
  refine sX3_entry ⟨fun q => absurd q (nI_pos (by omega)), fun _ => ⟨hP.1, fun q => absurd q (by rw [h.1]; exact nI_ge hj (by omega)), fun _ => ⟨a + 8, hP.2.2.2.1, hP.2.2.2.2.1, by rw [hP.2.2.2.2.2]; exact vp_in_nI (by omega) (by decide), ?_, rfl⟩⟩⟩
  rw [nI_clamp (by omega)]
  exact h.2.2 j x hx
/-- Statement.get within -/
theorem tX2_get {a j n b : Nat} (hP : stmP K N R a) (hn : I a 5 = nI n) (hn8 : n ≤ 8) (hj : j < n) (hb : R (a + 1) j = some b) : MtR l G yX2_get cX2_get 2 (some (.object "CopyReplace$Phrase")) d [.ref a, .int (nI j)] K N I R L sz (fun v I' => v = some b ∧ I' = I) := by
  refine sX2_get ⟨fun q => absurd q (nI_pos (by omega)), fun _ => ⟨hP.1, fun q => absurd q (by rw [hn]; exact nI_ge hj (by omega)), fun _ => ⟨a + 1, hP.2.1, hP.2.2.1, by rw [hP.2.2.2]; exact vp_in_nI (by omega) (by decide), b, ?_, rfl, rfl⟩⟩⟩
  rw [nI_clamp (by omega)]; exact hb
theorem tX2_append {a n b : Nat} (hP : stmP K N R a) (hn : I a 5 = nI n) (hn8 : n < 8) (hb : K b = 11) : MtW l G yX2_append cX2_append 2 none d [.ref a, .ref b] K N I R L sz (fun I' R' => I' = u2 I a 5 (nI (n + 1)) ∧ R' = u2 R (a + 1) n (some b)) := by
  refine sX2_append ⟨hP.1, a + 1, hP.2.1, hP.2.2.1, fun q => absurd q (by rw [hn, hP.2.2.2]; exact nI_ge hn8 (by decide)), fun _ => ⟨by rw [hn, hP.2.2.2]; exact vp_in_nI hn8 (by decide), hb, fun R7 e7 I8 e8 => ⟨?_, ?_⟩⟩⟩
  · rw [e8, hn, nI_1]
  · rw [e7, hn, nI_clamp (by omega)]
end SMALL
