/-! the class's rows: what is added from another row -/
section ROW
variable {p : Program} {l : Launch} {e : Env} {s : State} {m : MethodId} {args : Array Value} {below : List Frame} {meth : Method} {c : Code} {G : Gx} {d : Nat} {K N : TK} {I : TI} {R : TR} {L : TL} {sz : Nat} {φ : Int32 → TI → Prop}
theorem addI_by {I : TI} {r n : Nat} {x1 x2 x3 x4 x5 v : Int32} : u2 (addI I r n (x1, x2, x3, 0, x4, x5)) (r + 4) n v = addI I r n (x1, x2, x3, v, x4, x5) := by
  funext a j
  simp only [u2_eq, addI]
  by_cases h4 : a = r + 4 ∧ j = n
  · obtain ⟨rfl, rfl⟩ := h4
    simp
  · simp only [h4, if_false]
theorem tX1_addPut {r q j : Nat} {t tq : List It} {y : It} {x1 x2 : Int32} (hP : rowP K N R r) (hl : RowIs I r t) (hQ : rowP K N R q) (hq : RowIs I q tq) (hy : tq[j]? = some y) : MtI l G yX1_addPut cX1_addPut 6 (some .boolean) (d + 1) [.ref r, .int x1, .int x2, .ref q, .int (nI j)] K N I R L sz (fun v I' => (t.length < 300 ∧ v = 1 ∧ I' = addI I r t.length (x1, y.2.1, y.2.2.1, x2, y.2.2.2.2.1, y.2.2.2.2.2)) ∨ (t.length = 300 ∧ v = 0 ∧ I' = I)) := by
  have hj : j < tq.length := (List.getElem?_eq_some_iff.mp hy).1
  have h3 := hq.2.1
  have h4 := hl.2.1
  have hin : vp_in (nI j) 300 := vp_in_nI (by omega) (by decide)
  have hcj : (nI j).toNatClampNeg = j := nI_clamp (by omega)
  obtain ⟨⟨y1, y2, y3, y4, y5, y6⟩, yz⟩ := hq.2.2 j y hy
  refine sX1_addPut ⟨hP.1, hQ.1, _, tX1_has hQ.1 hq.1, fun v I' hv => ?_⟩
  obtain ⟨rfl, rfl⟩ := hv
  have hb : hasB tq.length (nI j) = true := by rw [hasB_nI (by omega) (by omega)]; simp [hj]
  obtain ⟨hK, ⟨p1, p2, p3⟩, ⟨p4, p5, p6⟩, ⟨p7, p8, p9⟩, ⟨q1, q2, q3⟩, ⟨q4, q5, q6⟩, ⟨q7, q8, q9⟩⟩ := id hQ
  refine ⟨fun z => absurd hb (by rw [b2i_eq0] at z; simp [z]), fun _ => ⟨q + 2, p4, p5, by rw [p6]; exact hin, q + 3, p7, p8, by rw [p9]; exact hin, q + 5, q4, q5, by rw [q6]; exact hin, q + 6, q7, q8, by rw [q9]; exact hin, ?_⟩⟩
  rw [hcj, y2, y3, y5, y6]
  refine ⟨_, tX1_addEntry hP hl yz, fun v I' hv => ?_⟩
  rcases hv with ⟨hn, rfl, rfl⟩ | ⟨hn, rfl, rfl⟩
  · refine ⟨fun _ => ⟨r + 4, hP.2.2.2.2.1.1, hP.2.2.2.2.1.2.1, by rw [hP.2.2.2.2.1.2.2, hl.1]; exact vp_in_nI hn (by decide), fun I41 e41 => Or.inl ⟨hn, rfl, ?_⟩⟩, fun z => absurd z (by decide)⟩
    rw [e41, hl.1, nI_clamp (by omega), addI_by]
  · exact ⟨fun z => absurd rfl z, fun _ => Or.inr ⟨hn, rfl, rfl⟩⟩
theorem tX1_addSame {r q j : Nat} {t tq : List It} {y : It} (hP : rowP K N R r) (hl : RowIs I r t) (hQ : rowP K N R q) (hq : RowIs I q tq) (hy : tq[j]? = some y) : MtI l G yX1_addSame cX1_addSame 3 (some .boolean) (d + 2) [.ref r, .ref q, .int (nI j)] K N I R L sz (fun v I' => (t.length < 300 ∧ v = 1 ∧ I' = addI I r t.length y) ∨ (t.length = 300 ∧ v = 0 ∧ I' = I)) := by
  have hj : j < tq.length := (List.getElem?_eq_some_iff.mp hy).1
  have h3 := hq.2.1
  have hin : vp_in (nI j) 300 := vp_in_nI (by omega) (by decide)
  have hcj : (nI j).toNatClampNeg = j := nI_clamp (by omega)
  obtain ⟨⟨y1, y2, y3, y4, y5, y6⟩, yz⟩ := hq.2.2 j y hy
  refine sX1_addSame (d := d + 1) ⟨hQ.1, _, tX1_has hQ.1 hq.1, fun v I' hv => ?_⟩
  obtain ⟨rfl, rfl⟩ := hv
  have hb : hasB tq.length (nI j) = true := by rw [hasB_nI (by omega) (by omega)]; simp [hj]
  obtain ⟨hK, ⟨p1, p2, p3⟩, ⟨p4, p5, p6⟩, ⟨p7, p8, p9⟩, ⟨q1, q2, q3⟩, ⟨q4, q5, q6⟩, ⟨q7, q8, q9⟩⟩ := id hQ
  refine ⟨fun z => absurd hb (by rw [b2i_eq0] at z; simp [z]), fun _ => ⟨q + 1, p1, p2, by rw [p3]; exact hin, q + 4, q1, q2, by rw [q3]; exact hin, hP.1, ?_⟩⟩
  rw [hcj, y1, y4]
  refine ⟨_, tX1_addPut hP hl hQ hq hy, fun v I' hv => ?_⟩
  rcases hv with ⟨hn, rfl, rfl⟩ | ⟨hn, rfl, rfl⟩
  · exact ⟨fun z => absurd z (by decide), fun _ => Or.inl ⟨hn, rfl, rfl⟩⟩
  · exact ⟨fun _ => Or.inr ⟨hn, rfl, rfl⟩, fun z => absurd rfl z⟩
/-- two rows apart -/
def rowsApart (r q : Nat) : Prop := r + 6 < q ∨ q + 6 < r
theorem RowIs.other {I I' : TI} {r q : Nat} {t : List It} (h : RowIs I q t) (ho : offRow I I' r) (ha : rowsApart r q) : RowIs I' q t := h.off (fun a h1 h2 => ho a (by unfold rowsApart at ha; omega))
theorem addAll_loop (C : Cx p s m args meth c (AM K sz) G RX1 cX1_addAll 3) (hr : meth.sig.returnType = (some .boolean)) {r q : Nat} {tq : List It} (hP : rowP K N R r) (hQ : rowP K N R q) (ha : rowsApart r q) :
    ∀ (k j : Nat) (t : List It) (I : TI), k + j = tq.length → RowIs I r t → RowIs I q tq → (∀ I', offRow I I' r → (t.length + k ≤ 300 → RowIs I' r (t ++ tq.drop j) → φ 1 I') ∧ (300 < t.length + k → φ 0 I')) → WI p l e s m args below meth c G (d + 3) φ K N R L sz 3 2 [(0, .ref r), (1, .ref q), (2, .int (nI j))] I
  | 0, j, t, I, hk, hl, hq, h => by
    have h3 := hq.2.1
    have hj : j = tq.length := by omega
    refine vX1_addAll_2 (d := d + 2) C hr ⟨hQ.1, fun _ => ?_, fun z => absurd (by rw [hq.1, hj]; exact nI_le (Nat.le_refl _) (by omega)) z⟩
    refine (h I offRow.rf).1 (by have := hl.2.1; omega) ?_
    rw [hj, List.drop_length, List.append_nil]; exact hl
  | k + 1, j, t, I, hk, hl, hq, h => by
    have h3 := hq.2.1
    have h4 := hl.2.1
    have hj : j < tq.length := by omega
    obtain ⟨y, hy⟩ : ∃ y, tq[j]? = some y := ⟨_, List.getElem?_eq_getElem hj⟩
    refine vX1_addAll_2 (d := d + 2) C hr ⟨hQ.1, fun z => absurd z (by rw [hq.1]; exact nI_ge hj (by omega)), fun _ => ⟨hP.1, _, tX1_addSame hP hl hQ hq hy, fun v I' hv => ?_⟩⟩
    have hd : tq.drop j = y :: tq.drop (j + 1) := by
      rw [List.drop_eq_getElem_cons hj]
      congr 1
      have := List.getElem?_eq_getElem hj
      rw [hy] at this; exact (Option.some.inj this).symm
    rcases hv with ⟨hn, rfl, rfl⟩ | ⟨hn, rfl, rfl⟩
    · refine ⟨fun _ => ?_, fun z => absurd z (by decide)⟩
      rw [nI_1]
      have hz := (hq.2.2 j y hy).2
      refine addAll_loop C hr hP hQ ha k (j + 1) (t ++ [y]) _ (by omega) (addI_row hl hn hz) (hq.other addI_off ha) (fun I' ho => ?_)
      have h5 := h I' (addI_off.tr ho)
      refine ⟨fun q1 q2 => h5.1 (by simp at q1; omega) (by rw [hd]; simpa using q2), fun q1 => h5.2 (by simp at q1; omega)⟩
    · exact ⟨fun z => absurd rfl z, fun _ => (h _ offRow.rf).2 (by omega)⟩
theorem tX1_addAll {r q : Nat} {t tq : List It} (hP : rowP K N R r) (hl : RowIs I r t) (hQ : rowP K N R q) (hq : RowIs I q tq) (ha : rowsApart r q) : MtI l G yX1_addAll cX1_addAll 3 (some .boolean) (d + 3) [.ref r, .ref q] K N I R L sz (fun v I' => offRow I I' r ∧ ((t.length + tq.length ≤ 300 ∧ v = 1 ∧ RowIs I' r (t ++ tq)) ∨ (300 < t.length + tq.length ∧ v = 0))) := by
  refine sX1_addAll (d := d + 2) (fun p e s m args below meth c C hr => ?_)
  refine addAll_loop (d := d) C hr hP hQ ha tq.length 0 t I (by omega) hl hq (fun I' ho => ⟨fun h1 h2 => ⟨ho, Or.inl ⟨h1, rfl, by rw [List.drop_zero] at h2; exact h2⟩⟩, fun h1 => ⟨ho, Or.inr ⟨h1, rfl⟩⟩⟩)
end ROW
