/-! the class's run: what stays -/
def offT (I I' : TI) (o : Nat) (tx : Nat → Nat) (nt : Nat) (op : List Nat) : Prop := (∀ a, a ≠ o → a ≠ o + 19 → (a < o + 5 ∨ o + 11 < a) → (∀ u, u ≤ nt → u ∉ op → a < tx u + 1 ∨ tx u + 7 < a) → I' a = I a) ∧ ∀ k, k ≠ 10 → k ≠ 11 → k ≠ 12 → I' o k = I o k
theorem offT.rf {I : TI} {o : Nat} {tx : Nat → Nat} {nt : Nat} {op : List Nat} : offT I I o tx nt op := ⟨fun _ _ _ _ _ => rfl, fun _ _ _ _ => rfl⟩
theorem offT.tr {I I' I'' : TI} {o : Nat} {tx : Nat → Nat} {nt : Nat} {op : List Nat} (h : offT I I' o tx nt op) (h2 : offT I' I'' o tx nt op) : offT I I'' o tx nt op := ⟨fun a q1 q2 q3 q4 => (h2.1 a q1 q2 q3 q4).trans (h.1 a q1 q2 q3 q4), fun k q1 q2 q3 => (h2.2 k q1 q2 q3).trans (h.2 k q1 q2 q3)⟩
theorem offT.mono {I I' : TI} {o : Nat} {tx : Nat → Nat} {nt : Nat} {op op' : List Nat} (h : offT I I' o tx nt op) (hs : ∀ u, u ∉ op → u ∉ op') : offT I I' o tx nt op' := ⟨fun a q1 q2 q3 q4 => h.1 a q1 q2 q3 (fun u h1 h2 => q4 u h1 (hs u h2)), h.2⟩
theorem offG.t {I I' : TI} {o : Nat} {tx : Nat → Nat} {nt : Nat} {op : List Nat} (h : offG I I' o) : offT I I' o tx nt op := ⟨fun a q1 q2 _ _ => h.1 a q1 q2, fun k q1 _ _ => h.2 k q1⟩
theorem offM.t {I I' : TI} {o : Nat} {tx : Nat → Nat} {nt : Nat} {op : List Nat} (h : offM I I' o (o + 5)) : offT I I' o tx nt op := ⟨fun a q1 _ q3 _ => h.1 a q1 (by omega), fun k _ _ q3 => h.2 k q3⟩
theorem offRow.t5 {I I' : TI} {o : Nat} {tx : Nat → Nat} {nt : Nat} {op : List Nat} (h : offRow I I' (o + 5)) : offT I I' o tx nt op := ⟨fun a _ _ q3 _ => h a (by omega), fun k _ _ _ => by rw [h o (by omega)]⟩
theorem offRow.tt {I I' : TI} {o : Nat} {tx : Nat → Nat} {nt : Nat} {op : List Nat} {t : Nat} (h : offRow I I' (tx t + 1)) (ht : t ≤ nt) (hn : t ∉ op) (ho : o + 20 ≤ tx t) : offT I I' o tx nt op := ⟨fun a _ _ _ q4 => h a (by have := q4 t ht hn; omega), fun k _ _ _ => by rw [h o (by omega)]⟩
theorem offT_cp {I : TI} {o : Nat} {tx : Nat → Nat} {nt : Nat} {op : List Nat} {v : Int32} : offT I (u2 I o 11 v) o tx nt op := ⟨fun a q1 _ _ _ => u2_ne _ _ q1, fun k _ q2 _ => u2_nk _ _ q2⟩
def offO (R R' : TR) (o n : Nat) : Prop := (∀ a, a ≠ o + 4 → R' a = R a) ∧ ∀ j, j < n → R' (o + 4) j = R (o + 4) j
theorem offO.rf {R : TR} {o n : Nat} : offO R R o n := ⟨fun _ _ => rfl, fun _ _ => rfl⟩
theorem offO.tr {R R' R'' : TR} {o n : Nat} (h : offO R R' o n) (h2 : offO R' R'' o n) : offO R R'' o n := ⟨fun a q => (h2.1 a q).trans (h.1 a q), fun j q => (h2.2 j q).trans (h.2 j q)⟩
theorem offO.mono {R R' : TR} {o n n' : Nat} (h : offO R R' o n) (hn : n' ≤ n) : offO R R' o n' := ⟨h.1, fun j q => h.2 j (by omega)⟩
theorem offO.opn {R R' : TR} {o n : Nat} {tx : Nat → Nat} {op : List Nat} (h : offO R R' o n) (ho : openAt R o tx op) (hn : op.length ≤ n) : openAt R' o tx op := fun j u hu => by
  have := (List.getElem?_eq_some_iff.mp hu).1
  rw [h.2 j (by omega)]; exact ho j u hu
theorem rowP.offR {K N : TK} {R R' : TR} {r : Nat} (h : rowP K N R r) (hr : R' r = R r) : rowP K N R' r := by
  unfold rowP at h ⊢; rw [hr]; exact h
theorem wrdP.offR {K N : TK} {R R' : TR} {r : Nat} (h : wrdP K N R r) (hr : R' r = R r) : wrdP K N R' r := by
  unfold wrdP at h ⊢; rw [hr]; exact h
theorem phrP.offR {K N : TK} {R R' : TR} {r : Nat} (h : phrP K N R r) (hr : R' r = R r) (h1 : R' (r + 1) = R (r + 1)) (h3 : R' (r + 3) = R (r + 3)) : phrP K N R' r := by
  obtain ⟨a, b, c, d, e⟩ := h
  exact ⟨a, by rw [hr]; exact b, c.offR h1, by rw [hr]; exact d, e.offR h3⟩
theorem stmP.offR {K N : TK} {R R' : TR} {r : Nat} (h : stmP K N R r) (hr : R' r = R r) : stmP K N R' r := by
  unfold stmP at h ⊢; rw [hr]; exact h
theorem txtP.offR {K N : TK} {R R' : TR} {r : Nat} (h : txtP K N R r) (hr : R' r = R r) (h1 : R' (r + 1) = R (r + 1)) : txtP K N R' r := by
  obtain ⟨a, b, c, d, e⟩ := h
  exact ⟨a, by rw [hr]; exact b, c.offR h1, by rw [hr]; exact d, e⟩
section FR
variable {K N : TK} {I : TI} {R : TR} {sz : Nat} {o : Nat} {tx sa pa : Nat → Nat} {D : Dt}
theorem ClsRep.offO {R' : TR} {n : Nat} (h : ClsRep K N I R o sz tx sa pa D) (hr : offO R R' o n) : ClsRep K N I R' o sz tx sa pa D := by
  obtain ⟨a1, a2, a3, a4, a5, a6⟩ := h
  have hR := hr.1
  refine ⟨?_, a2, fun t ht => ?_, fun s st hs => ?_, fun p ph hp => ?_, a6⟩
  · obtain ⟨f1, f2, f3, f4, f5, f6, f7, f8, f9⟩ := a1
    have e0 := hR o (by omega)
    refine ⟨f1, ?_, ?_, ?_, ?_, ⟨by rw [e0]; exact f6.1, f6.2.offR (hR _ (by omega))⟩, ⟨by rw [e0]; exact f7.1, f7.2.offR (hR _ (by omega))⟩, by rw [e0]; exact f8, f9⟩ <;> rw [e0] <;> assumption
  · obtain ⟨b1, b2, b3⟩ := a3 t ht
    have := (a6.tx_lo ht).1
    exact ⟨by rw [hR _ (by omega)]; exact b1, b2.offR (hR _ (by omega)) (hR _ (by omega)), b3⟩
  · obtain ⟨b1, b2, b3⟩ := a4 s st hs
    have := a6.s_lo (List.getElem?_eq_some_iff.mp hs).1
    refine ⟨by rw [hR _ (by omega)]; exact b1, b2.offR (hR _ (by omega)), ?_⟩
    unfold StD at b3 ⊢
    rw [hR (sa s + 1) (by omega)]; exact b3
  · obtain ⟨b1, b2, b3⟩ := a5 p ph hp
    have := a6.p_lo (List.getElem?_eq_some_iff.mp hp).1
    exact ⟨by rw [hR _ (by omega)]; exact b1, b2.offR (hR _ (by omega)) (hR _ (by omega)) (hR _ (by omega)), b3⟩
theorem ClsRep.offT {I' : TI} {op : List Nat} (h : ClsRep K N I R o sz tx sa pa D) (hm : offT I I' o tx D.1.length op) : ClsRep K N I' R o sz tx sa pa D := by
  obtain ⟨a1, a2, a3, a4, a5, a6⟩ := id h
  refine h.keepI (hm.2 _ (by decide) (by decide) (by decide)) (hm.2 _ (by decide) (by decide) (by decide)) (hm.2 _ (by decide) (by decide) (by decide)) (fun t ht => ?_) (fun s hs => ?_) (fun p hp k hk => ?_)
  · have h1 := (a6.tx_lo ht).1
    have h2 : ∀ u, u ≤ D.1.length → tx t = tx u ∨ tx t + 9 ≤ tx u ∨ tx u + 9 ≤ tx t := fun u hu => by
      by_cases q : t = u
      · rw [q]; exact Or.inl rfl
      · exact Or.inr (a6.tt ht hu q)
    exact ⟨hm.1 _ (by omega) (by omega) (by omega) (fun u hu _ => by have := h2 u hu; omega), hm.1 _ (by omega) (by omega) (by omega) (fun u hu _ => by have := h2 u hu; omega)⟩
  · have h1 := a6.s_lo hs
    exact hm.1 _ (by omega) (by omega) (by omega) (fun u hu _ => by have := a6.ts hu hs; omega)
  · have h1 := a6.p_lo hp
    exact hm.1 _ (by omega) (by omega) (by omega) (fun u hu _ => by have := a6.tp hu hp; omega)
theorem offT.row {I' : TI} {op : List Nat} {t : Nat} {r : List It} (hm : offT I I' o tx D.1.length op) (h : ClsRep K N I R o sz tx sa pa D) (ht : t ≤ D.1.length) (hop : t ∈ op) (hr : RowIs I (tx t + 1) r) : RowIs I' (tx t + 1) r := by
  have a6 := h.2.2.2.2.2
  have h1 := (a6.tx_lo ht).1
  refine hr.off (fun a q1 q2 => hm.1 a (by omega) (by omega) (by omega) (fun u hu hn => ?_))
  have hne : t ≠ u := fun q => hn (by rw [← q]; exact hop)
  have := a6.tt ht hu hne
  omega
theorem tNm_le {x : Int32} {t : Nat} (h : tNm D x = some t) : 0 < t ∧ t ≤ D.1.length := by
  unfold tNm at h
  cases hf : D.1.findIdx? (fun y => y == x) with
  | none => rw [hf] at h; cases h
  | some j =>
    rw [hf] at h
    have hj : j < D.1.length := (List.findIdx?_eq_some_iff_getElem.mp hf).1
    have : j + 1 = t := by simpa using h
    omega
end FR
def addR (out : List It) (r : ResT) : ResT := if r.1 = 0 then (if out.length + r.2.1.length ≤ 300 then (0, out ++ r.2.1, r.2.2) else (-3, [], r.2.2)) else (r.1, [], r.2.2)
theorem entS_some {cpf : Nat → Int32 → Int32 → ResT} {t i s : Nat} {e : Int32} {es : List Int32} {out : List It} {cp mt : Int32} (he : cpOf e = some s) (hr : (cpf s cp mt).1 = 0 → (cpf s cp mt).2.2.2.2 = []) : entS cpf t i (e :: es) out cp mt = if (addR out (cpf s cp mt)).1 = 0 then entS cpf t (i + 1) es (addR out (cpf s cp mt)).2.1 (addR out (cpf s cp mt)).2.2.1 (addR out (cpf s cp mt)).2.2.2.1 else addR out (cpf s cp mt) := by
  conv => lhs; unfold entS
  rw [he]
  simp only
  unfold addR
  generalize cpf s cp mt = r at *
  obtain ⟨r1, r2, r3, r4, r5⟩ := r
  simp only at hr ⊢
  by_cases h1 : r1 = 0
  · simp only [h1, if_true]
    by_cases h2 : out.length + r2.length ≤ 300
    · simp only [h2, if_true]
    · simp only [h2, if_false]
      rw [if_neg (by decide), hr h1]
  · simp only [h1, if_false]
theorem entS_none {cpf : Nat → Int32 → Int32 → ResT} {t i : Nat} {e : Int32} {es : List Int32} {out : List It} {cp mt : Int32} (he : cpOf e = none) : entS cpf t i (e :: es) out cp mt = if out.length < 300 then entS cpf t (i + 1) es (out ++ [ownIt e t i]) cp mt else (-3, [], cp, mt, []) := by
  conv => lhs; unfold entS
  rw [he]
/-- what an entry is to the class -/
theorem ent_cls {D : Dt} (hl : D.2.2.1.length ≤ 60) {sa : Nat → Nat} {e : Int32} (h : okE D e) : (cpOf e = none ∧ ((if (-100) ≤ cv e then none else (nOf D.2.2.1.length (-100 - cv e)).map sa) = none ∨ ∃ (s : Nat) (st : Stt), (if (-100) ≤ cv e then none else (nOf D.2.2.1.length (-100 - cv e)).map sa) = some (sa s) ∧ D.2.2.1[s]? = some st ∧ st.1 = false)) ∨ ∃ (s : Nat) (st : Stt), cpOf e = some s ∧ (if (-100) ≤ cv e then none else (nOf D.2.2.1.length (-100 - cv e)).map sa) = some (sa s) ∧ D.2.2.1[s]? = some st ∧ st.1 = true := by
  rcases h with h | h | ⟨s, st, h1, h2⟩
  · refine Or.inl ⟨cpOf_pl h, Or.inl ?_⟩
    rw [if_pos]
    have hg := pl_ge h
    rw [cv_ge hg]
    rw [Int32.le_iff_toInt_le]
    rw [Int32.lt_iff_toInt_lt] at hg
    have q1 : ((-1 : Int32)).toInt = -1 := rfl
    have q2 : ((-100 : Int32)).toInt = -100 := rfl
    omega
  · refine Or.inl ⟨by rw [h]; decide, Or.inl ?_⟩
    rw [h, if_pos (by decide)]
  · have hs := (List.getElem?_eq_some_iff.mp h1).1
    have q1 := st_lt (s + 1) (by omega) (by omega)
    have q2 := cp_st (s + 1) (by omega) (by omega)
    have q3 : nOf D.2.2.1.length (nI (s + 1)) = some s := nOf_nI (by omega) hs
    rcases h2 with ⟨h2, h3⟩ | ⟨h2, h3⟩
    · refine Or.inr ⟨s, st, by rw [h3]; exact q2.1, ?_, h1, h2⟩
      rw [h3, q2.2.2.1, if_neg q1.2.2.2.2.2.2.1, q1.2.2.2.2.2.2.2.1, q3]; rfl
    · refine Or.inl ⟨by rw [h3]; exact q2.2.1, Or.inr ⟨s, st, ?_, h1, h2⟩⟩
      rw [h3, q1.2.2.2.1, if_neg q1.2.2.2.2.2.2.1, q1.2.2.2.2.2.2.2.1, q3]; rfl
