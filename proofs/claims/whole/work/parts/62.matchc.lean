/-! the class's matching -/
def seg (t : List It) (j e : Nat) : List It := (t.take e).drop j
theorem seg_nil {t : List It} {j e : Nat} (h : e ≤ j) : seg t j e = [] := by
  unfold seg; apply List.drop_eq_nil_of_le; simp; omega
theorem seg_len {t : List It} {j e : Nat} (h : e ≤ t.length) : (seg t j e).length = e - j := by
  unfold seg; simp; omega
theorem seg_cons {t : List It} {j e : Nat} {x : It} (hj : j < e) (hx : t[j]? = some x) : seg t j e = x :: seg t (j + 1) e := by
  unfold seg
  have hl : j < t.length := (List.getElem?_eq_some_iff.mp hx).1
  rw [List.drop_eq_getElem_cons (by simp; omega)]
  congr 1
  rw [List.getElem_take]
  exact (List.getElem?_eq_some_iff.mp hx).2
theorem seg_get {t : List It} {j e : Nat} (hj : j < e) (he : e ≤ t.length) : ∃ x, t[j]? = some x ∧ seg t j e = x :: seg t (j + 1) e := by
  have hl : j < t.length := by omega
  exact ⟨_, List.getElem?_eq_getElem hl, seg_cons hj (List.getElem?_eq_getElem hl)⟩
theorem seg_suf {t r : List It} {j e : Nat} (he : e ≤ t.length) (hj : j ≤ e) (h : Suf r (seg t j e)) : r = seg t (e - r.length) e := by
  have h5 := h.eq
  have h6 := h.len
  rw [seg_len he] at h5 h6
  generalize hn : r.length = n at h5 h6
  rw [h5]
  unfold seg
  rw [List.drop_drop]
  congr 1
  omega
theorem behT_skip {w : Int32} {ws : List Int32} {x : It} {l : List It} (h : x.1 = 0 ∨ x.1 = -1) : behT (w :: ws) (x :: l) = behT (w :: ws) l := by
  have e : skipS (x :: l) = skipS l := by
    rw [show skipS (x :: l) = if x.1 = 0 ∨ x.1 = -1 then skipS l else x :: l from rfl, if_pos h]
  unfold behT
  rw [e]
theorem behT_go {w : Int32} {ws : List Int32} {x : It} {l : List It} (h : ¬ (x.1 = 0 ∨ x.1 = -1)) : behT (w :: ws) (x :: l) = if x.1 = w then behT ws l else none := by
  have e : skipS (x :: l) = x :: l := by
    rw [show skipS (x :: l) = if x.1 = 0 ∨ x.1 = -1 then skipS l else x :: l from rfl, if_neg h]
  conv => lhs; unfold behT
  rw [e]
/-- a changed word is a word -/
theorem chg_word {ph : Phr} {x : Int32} {c : Nat} (hok : okP ph) (hk : ph.1 ≠ 0) (hw : wd x = true) (hh : hasN ph.1 (hd0 ph.2.1) x.toNatClampNeg = true) (hc : chg ph.1 (hd0 ph.2.1) (hd0 ph.2.2) x.toNatClampNeg = some c) : wd (nI c) = true ∧ c < 2 ^ 31 := by
  obtain ⟨m0, pt, g1, g2, g3⟩ := part_word hok hk
  obtain ⟨m1, n, w1, w2, w3⟩ := wd_okx.mp hw
  have g4 := okx_lt _ _ g2
  have g5 : (27 : Nat) ^ (m0 + 1) ≤ 387420489 := pw_lt (by omega)
  have w4 := okx_lt _ _ w2
  have w5 : (27 : Nat) ^ (m1 + 1) ≤ 387420489 := pw_lt (by omega)
  have hp : hd0 ph.2.1 = pt := by rw [g3]; exact nI_clamp (by omega)
  have hx : x.toNatClampNeg = n := by rw [w3]; exact nI_clamp (by omega)
  obtain ⟨mt, h1, h2⟩ : ∃ mt, okx mt (hd0 ph.2.2) = true ∧ mt ≤ 6 := by
    rcases to_word hok hk with ⟨q1, q2⟩ | ⟨y, z, q1, q2, q3, q4⟩
    · exact ⟨0, by rw [q2]; rfl, by omega⟩
    · exact ⟨y + 1, by rw [q4]; exact q2, by omega⟩
  rw [hp, hx] at hh hc
  have e1 := okx_nl 6 _ _ g2 (by omega)
  have e2 := okx_nl 6 _ _ w2 (by omega)
  have e3 := okx_nl 6 _ _ h1 h2
  unfold hasN at hh
  unfold chg chgN at hc
  rw [e1, e2] at hh hc
  rw [e3] at hc
  simp only [Bool.and_eq_true, decide_eq_true_eq] at hh
  have hlt := hh.1
  split at hc
  · rename_i h6
    cases hc
    have hkx : ∃ y, y < 6 ∧ okx (y + 1) (if ph.1 = 1 then hd0 ph.2.2 * 27 ^ (m1 + 1 - (m0 + 1)) + n % 27 ^ (m1 + 1 - (m0 + 1)) else n / 27 ^ (m0 + 1) * 27 ^ mt + hd0 ph.2.2) = true := by
      refine ⟨m1 + 1 - (m0 + 1) + mt - 1, by omega, ?_⟩
      split
      · have := okx_app h1 (m1 + 1 - (m0 + 1)) (n % 27 ^ (m1 + 1 - (m0 + 1))) (okx_mod (a := m0 + 1) _ _ (by rw [show m0 + 1 + (m1 + 1 - (m0 + 1)) = m1 + 1 by omega]; exact w2))
        rw [show m1 + 1 - (m0 + 1) + mt - 1 + 1 = mt + (m1 + 1 - (m0 + 1)) by omega]
        exact this
      · have := okx_app (okx_div (a := m1 + 1 - (m0 + 1)) (m0 + 1) n (by rw [show m1 + 1 - (m0 + 1) + (m0 + 1) = m1 + 1 by omega]; exact w2)) mt _ h1
        rw [show m1 + 1 - (m0 + 1) + mt - 1 + 1 = (m1 + 1 - (m0 + 1)) + mt by omega]
        exact this
    obtain ⟨y, hy, ho⟩ := hkx
    have z1 := okx_lt _ _ ho
    have z2 : (27 : Nat) ^ (y + 1) ≤ 387420489 := pw_lt (by omega)
    exact ⟨wd_okx.mpr ⟨y, _, hy, ho, rfl⟩, by omega⟩
  · cases hc
section MATCH
variable {p : Program} {l : Launch} {e : Env} {s : State} {m : MethodId} {args : Array Value} {below : List Frame} {meth : Method} {c : Code} {G : Gx} {d : Nat} {K N : TK} {I : TI} {R : TR} {L : TL} {sz : Nat} {φ : Int32 → TI → Prop}
/-- where a rest begins -/
def bhI (en : Nat) : Option (List It) → Int32
  | some r => nI (en - r.length)
  | none => -1
theorem behind_loop (C : Cx p s m args meth c (AM K sz) G RX5 cX5_behindMatch 7) (hr : meth.sig.returnType = (some .int)) {a pn q en : Nat} {ph : Phr} {t : List It} (hP : phrP K N R a) (hD : PhD I a pn ph) (hQ : rowP K N R q) (hq : RowIs I q t) (he : en ≤ t.length) :
    ∀ (k j f : Nat) (w : Int32) (ws : List Int32), k + j = en → ph.2.1.drop f = w :: ws → φ (bhI en (behT (w :: ws) (seg t j en))) I → WI p l e s m args below meth c G (d + 2) φ K N R L sz 7 33 [(0, .ref a), (1, .ref q), (3, .int (nI en)), (4, .int (nI f)), (5, .int (nI j))] I
  | 0, j, f, w, ws, hk, hf, h => by
    have h3 := hq.2.1
    have hj : j = en := by omega
    rw [seg_nil (by omega)] at h
    exact vX5_behindMatch_33 (d := d + 1) C hr ⟨fun _ => h, fun z => absurd (nI_le (by omega) (by omega)) z⟩
  | k + 1, j, f, w, ws, hk, hf, h => by
    have h3 := hq.2.1
    have h10 := hD.2.2.1.2.1
    obtain ⟨x, hx, hs⟩ := seg_get (t := t) (j := j) (e := en) (by omega) he
    have hfl : f < ph.2.1.length := by
      apply Nat.lt_of_not_le; intro z
      rw [List.drop_eq_nil_of_le z] at hf; cases hf
    have hw : ph.2.1[f]? = some w := by
      have := List.drop_eq_getElem_cons hfl
      rw [hf] at this
      injection this with h1 h2
      rw [List.getElem?_eq_getElem hfl, h1]
    have hws : ph.2.1.drop (f + 1) = ws := by
      have := List.drop_eq_getElem_cons hfl
      rw [hf] at this
      injection this with h1 h2
      exact h2.symm
    rw [hs] at h
    refine vX5_behindMatch_33 (d := d + 1) C hr ⟨fun z => absurd z (nI_ge (by omega) (by omega)), fun _ => ⟨hQ.1, _, tX1_code hQ hq hx, fun r4 I5 h4 => ?_⟩⟩
    obtain ⟨rfl, h4⟩ := h4
    obtain rfl := h4.symm
    refine ⟨fun z => ?_, fun z => ⟨fun z2 => ⟨hP.1, a + 1, hP.2.1, hP.2.2.1.1, _, tX4_get hP.2.2.1 hD.2.2.1 hw, fun r17 I18 h17 => ?_⟩, fun z2 => ?_⟩⟩
    · rw [behT_skip (Or.inl z)] at h
      rw [nI_1]
      exact behind_loop C hr hP hD hQ hq he k (j + 1) f w ws (by omega) hf h
    · obtain ⟨rfl, h17⟩ := h17
      obtain rfl := h17.symm
      rw [behT_go (by intro q; rcases q with q | q; exact z q; exact z2 q)] at h
      refine ⟨fun z3 => ?_, fun z3 => ?_⟩
      · rw [if_pos z3] at h
        rw [nI_1, nI_1, hD.2.2.1.1, nI_eq (by omega) (by omega)]
        refine ⟨fun z4 => ?_, fun z4 => ?_⟩
        · match hm : ws with
          | [] =>
            exfalso
            rw [List.drop_eq_nil_iff] at hws
            omega
          | w2 :: ws2 => exact behind_loop C hr hP hD hQ hq he k (j + 1) (f + 1) w2 ws2 (by omega) hws h
        · have hn : ws = [] := by rw [← hws]; exact List.drop_eq_nil_of_le (by omega)
          rw [hn] at h
          simp only [behT, bhI, seg_len he] at h
          rw [show en - (en - (j + 1)) = j + 1 by omega] at h
          exact h
      · rw [if_neg z3] at h; exact h
    · rw [behT_skip (Or.inr z2)] at h
      rw [nI_1]
      exact behind_loop C hr hP hD hQ hq he k (j + 1) f w ws (by omega) hf h
theorem tX5_behindMatch {a pn q i en : Nat} {ph : Phr} {t : List It} {x : It} (hP : phrP K N R a) (hD : PhD I a pn ph) (hok : okP ph) (hQ : rowP K N R q) (hq : RowIs I q t) (he : en ≤ t.length) (hi : i < en) (hx : t[i]? = some x) (hw : wd x.1 = true) : MtI l G yX5_behindMatch cX5_behindMatch 7 (some .int) (d + 2) [.ref a, .ref q, .int (nI i), .int (nI en)] K N I R L sz (fun v I' => v = bhI en (phM ph (seg t i en)) ∧ I' = I) := by
  have h3 := hq.2.1
  refine sX5_behindMatch (d := d + 1) (fun p e s m args below meth c C hr => ⟨hP.1, fun z => ?_, fun z => ⟨hQ.1, _, tX1_code hQ hq hx, fun r5 I6 h5 => ?_⟩⟩)
  · rw [hD.2.1] at z
    match hm : ph.2.1 with
    | [] => exfalso; have := hok.2.1; rw [hm] at this; simp at this
    | w :: ws =>
      refine behind_loop C hr hP hD hQ hq he (en - i) i 0 w ws (by omega) hm ⟨?_, rfl⟩
      simp only [phM, z, if_true, hm]
  · obtain ⟨rfl, rfl⟩ := h5
    rw [hD.2.1] at z
    obtain ⟨m0, pt, g1, g2, g3⟩ := part_word hok z
    obtain ⟨n, w0, w1, w2, w3⟩ := wd_spec hw
    have g4 := okx_lt _ _ g2
    have g5 : (27 : Nat) ^ (m0 + 1) ≤ 387420489 := pw_lt (by omega)
    have g6 : (387420489 : Nat) = 27 ^ 6 := by decide
    have hh : hd0 ph.2.1 = pt := by rw [g3]; exact nI_clamp (by omega)
    have hc : x.1.toNatClampNeg = n := by rw [w2]; exact nI_clamp (by omega)
    have hph : phM ph (seg t i en) = if hasN ph.1 pt n then some (seg t (i + 1) en) else none := by
      simp only [phM, z, if_false, seg_cons hi hx, hh, hc]
    rw [w2]
    refine ⟨_, tX5_hasPart hP hD g3 w1 (by omega), fun r14 I15 h14 => ?_⟩
    obtain ⟨rfl, rfl⟩ := h14
    rw [hph]
    refine ⟨fun z2 => ⟨?_, rfl⟩, fun z2 => ⟨?_, rfl⟩⟩
    · rw [b2i_eq0] at z2
      simp [z2, bhI]
    · rw [b2i_ne0] at z2
      rw [if_pos z2]
      simp only [bhI, seg_len he]
      rw [nI_1, show en - (en - (i + 1)) = i + 1 by omega]
theorem put_loop (C : Cx p s m args meth c (AM K sz) G RX5 cX5_put 5) (hr : meth.sig.returnType = (some .int)) {a pn q r i : Nat} {ph : Phr} {t : List It} {x : It} (hP : phrP K N R a) (hQ : rowP K N R q) (hx : t[i]? = some x) (hR : rowP K N R r) (hap : rowsApart r q) (hra : r + 6 < a ∨ a + 4 < r) :
    ∀ (k f : Nat) (out : List It) (I : TI), k + f = ph.2.2.length → PhD I a pn ph → RowIs I q t → RowIs I r out → (∀ I', offRow I I' r → (∀ o', pushs x pn (ph.2.2.drop f) out = some o' → RowIs I' r o' → φ 0 I') ∧ (pushs x pn (ph.2.2.drop f) out = none → φ (-3) I')) → WI p l e s m args below meth c G (d + 2) φ K N R L sz 5 51 [(0, .ref a), (1, .ref q), (2, .int (nI i)), (3, .ref r), (4, .int (nI f))] I
  | 0, f, out, I, hk, hD, hq, ho, h => by
    have h10 := hD.2.2.2.2.1
    refine vX5_put_51 (d := d + 1) C hr ⟨hP.1, a + 3, hP.2.2.2.1, hP.2.2.2.2.1, fun _ => ?_, fun z => absurd (by rw [hD.2.2.2.1]; exact nI_le (by omega) (by omega)) z⟩
    refine (h I offRow.rf).1 out ?_ ho
    rw [List.drop_eq_nil_of_le (by omega)]; rfl
  | k + 1, f, out, I, hk, hD, hq, ho, h => by
    have h10 := hD.2.2.2.2.1
    have hfl : f < ph.2.2.length := by omega
    have hd := List.drop_eq_getElem_cons hfl
    refine vX5_put_51 (d := d + 1) C hr ⟨hP.1, a + 3, hP.2.2.2.1, hP.2.2.2.2.1, fun z => absurd z (by rw [hD.2.2.2.1]; exact nI_ge (by omega) (by omega)), fun _ => ⟨_, tX4_get hP.2.2.2.2 hD.2.2.2 (List.getElem?_eq_getElem hfl), fun r7 I8 h7 => ?_⟩⟩
    obtain ⟨rfl, rfl⟩ := h7
    refine ⟨hR.1, _, tX1_addPut hR ho hQ hq hx, fun r17 I18 h17 => ?_⟩
    rw [hd] at h
    unfold pushs at h
    rw [hD.1] at h17
    rcases h17 with ⟨hn, rfl, rfl⟩ | ⟨hn, rfl, rfl⟩
    · refine ⟨fun _ => ?_, fun z => absurd z (by decide)⟩
      rw [nI_1]
      rw [if_pos hn] at h
      have hz := (hq.2.2 i x hx).2
      refine put_loop C hr hP hQ hx hR hap hra k (f + 1) (out ++ [putIt x (ph.2.2[f]'hfl) pn]) _ (by omega) (hD.off (fun j hj => addI_off _ (by omega))) (hq.other addI_off hap) (addI_row ho hn hz) (fun I' hI => ?_)
      exact h I' (addI_off.tr hI)
    · rw [if_neg (by omega)] at h
      exact ⟨fun z => absurd rfl z, fun _ => (h _ offRow.rf).2 rfl⟩
theorem tX5_put {a pn q r i : Nat} {ph : Phr} {t out : List It} {x : It} (hP : phrP K N R a) (hD : PhD I a pn ph) (hok : okP ph) (hQ : rowP K N R q) (hq : RowIs I q t) (hx : t[i]? = some x) (hw : wd x.1 = true) (hh : ph.1 ≠ 0 → hasN ph.1 (hd0 ph.2.1) x.1.toNatClampNeg = true) (hR : rowP K N R r) (ho : RowIs I r out) (hap : rowsApart r q) (hra : r + 6 < a ∨ a + 4 < r) : MtI l G yX5_put cX5_put 5 (some .int) (d + 2) [.ref a, .ref q, .int (nI i), .ref r] K N I R L sz (fun v I' => offRow I I' r ∧ v = (putL ph pn x out).1 ∧ ((putL ph pn x out).1 = 0 → RowIs I' r (putL ph pn x out).2)) := by
  refine sX5_put (d := d + 1) (fun p e s m args below meth c C hr => ⟨hP.1, fun z => ?_, fun z => ⟨hQ.1, _, tX1_code hQ hq hx, fun r5 I6 h5 => ?_⟩⟩)
  · rw [hD.2.1] at z
    refine put_loop C hr hP hQ hx hR hap hra ph.2.2.length 0 out I (by omega) hD hq ho (fun I' hI => ?_)
    rw [List.drop_zero]
    unfold putL
    rw [if_pos z]
    refine ⟨fun o' h1 h2 => ⟨hI, ?_, ?_⟩, fun h1 => ⟨hI, ?_, ?_⟩⟩
    · rw [h1]
    · rw [h1]; exact fun _ => h2
    · rw [h1]
    · rw [h1]; exact fun q => absurd q (show ¬ (-3 : Int32) = 0 by decide)
  · obtain ⟨rfl, rfl⟩ := h5
    rw [hD.2.1] at z
    obtain ⟨m0, pt, g1, g2, g3⟩ := part_word hok z
    obtain ⟨n, w0, w1, w2, w3⟩ := wd_spec hw
    have g4 := okx_lt _ _ g2
    have g5 : (27 : Nat) ^ (m0 + 1) ≤ 387420489 := pw_lt (by omega)
    have g6 : (387420489 : Nat) = 27 ^ 6 := by decide
    have hp : hd0 ph.2.1 = pt := by rw [g3]; exact nI_clamp (by omega)
    have hc : x.1.toNatClampNeg = n := by rw [w2]; exact nI_clamp (by omega)
    have hto : ((ph.2.2 = [] ∧ hd0 ph.2.2 = 0) ∨ ph.2.2 = [nI (hd0 ph.2.2)]) ∧ hd0 ph.2.2 < 27 ^ 6 := by
      rcases to_word hok z with ⟨q1, q2⟩ | ⟨y, zz, q1, q2, q3, q4⟩
      · exact ⟨Or.inl ⟨q1, q2⟩, by rw [q2]; decide⟩
      · refine ⟨Or.inr (by rw [q4]; exact q3), ?_⟩
        have z1 := okx_lt _ _ q2
        have z2 : (27 : Nat) ^ (y + 1) ≤ 387420489 := pw_lt (by omega)
        rw [q4]; omega
    have hh2 := hh z
    have hlt : nlF 6 pt < nlF 6 n := by
      rw [hp, hc] at hh2
      unfold hasN at hh2
      simp only [Bool.and_eq_true, decide_eq_true_eq] at hh2
      exact hh2.1
    have hcw := fun c => @chg_word ph x.1 c hok z hw hh2
    have hpl : putL ph pn x out = (match chg ph.1 (hd0 ph.2.1) (hd0 ph.2.2) x.1.toNatClampNeg with
      | none => (-5, out)
      | some c => if out.length < 300 then (0, out ++ [putIt x (nI c) pn]) else (-3, out)) := by
      unfold putL; rw [if_neg z]; cases chg ph.1 (hd0 ph.2.1) (hd0 ph.2.2) x.1.toNatClampNeg <;> rfl
    rw [hpl]
    rw [hp, hc] at hcw ⊢
    rw [w2]
    refine ⟨_, tX5_withPartChanged hP hD g3 hto.1 w1 (by omega) hto.2 hlt, fun r14 I15 h14 => ?_⟩
    obtain ⟨h14, rfl⟩ := h14
    rw [h14]
    match hm : chg ph.1 pt (hd0 ph.2.2) n with
    | none => exact ⟨fun q => absurd q (by decide), fun _ => ⟨offRow.rf, rfl, fun q => absurd q (show ¬ (-5 : Int32) = 0 by decide)⟩⟩
    | some cc =>
      have hcc := (hcw cc hm).2
      have h0 : (0 : Int32) ≤ nI cc := (nI_leI (a := 0) (by decide) hcc).mpr (Nat.zero_le _)
      refine ⟨fun _ => ⟨hR.1, _, tX1_addPut hR ho hQ hq hx, fun r24 I25 h24 => ?_⟩, fun q => absurd h0 q⟩
      rw [hD.1] at h24
      rcases h24 with ⟨hn, rfl, rfl⟩ | ⟨hn, rfl, rfl⟩
      · refine ⟨fun q => absurd q (by decide), fun _ => ?_⟩
        simp only [hn, if_true]
        exact ⟨addI_off, trivial, fun _ => addI_row ho hn (hq.2.2 i x hx).2⟩
      · refine ⟨fun _ => ?_, fun q => absurd rfl q⟩
        simp only [show ¬ out.length < 300 by omega, if_false]
        exact ⟨offRow.rf, trivial, fun q => absurd q (by decide)⟩
/-- nothing but a row and the number of matches changes -/
def offM (I I' : TI) (o r : Nat) : Prop := (∀ a, a ≠ o → (a < r ∨ r + 6 < a) → I' a = I a) ∧ ∀ k, k ≠ 12 → I' o k = I o k
theorem offM.rf {I : TI} {o r : Nat} : offM I I o r := ⟨fun _ _ _ => rfl, fun _ _ => rfl⟩
theorem offM.tr {I I' I'' : TI} {o r : Nat} (h : offM I I' o r) (h2 : offM I' I'' o r) : offM I I'' o r := ⟨fun a h1 h3 => (h2.1 a h1 h3).trans (h.1 a h1 h3), fun k hk => (h2.2 k hk).trans (h.2 k hk)⟩
theorem offRow.toM {I I' : TI} {o r : Nat} (h : offRow I I' r) (ho : o < r ∨ r + 6 < o) : offM I I' o r := ⟨fun a _ h3 => h a h3, fun k _ => by rw [h o ho]⟩
theorem offM_mt {I : TI} {o r : Nat} {v : Int32} : offM I (u2 I o 12 v) o r := ⟨fun a h1 _ => u2_ne _ _ h1, fun k hk => u2_nk _ _ hk⟩
/-- a row apart -/
theorem offM.row {I I' : TI} {o r q : Nat} {t : List It} (h : offM I I' o r) (hq : RowIs I q t) (ha : rowsApart r q) (ho : o < q) : RowIs I' q t := hq.off (fun a h1 h2 => h.1 a (by omega) (by unfold rowsApart at ha; omega))
/-- a row that matching may write -/
def rowW (o r : Nat) : Prop := r = o + 5 ∨ r = o + 12
variable {o : Nat} {tx sa pa : Nat → Nat} {D : Dt}
theorem ClsRep.offM {I I' : TI} {r : Nat} (h : ClsRep K N I R o sz tx sa pa D) (hr : rowW o r) (hm : offM I I' o r) : ClsRep K N I' R o sz tx sa pa D := by
  obtain ⟨a1, a2, a3, a4, a5, a6⟩ := id h
  unfold rowW at hr
  refine h.keepI (hm.2 _ (by decide)) (hm.2 _ (by decide)) (hm.2 _ (by decide)) (fun t ht => ?_) (fun s hs => ?_) (fun p hp k hk => ?_)
  · have := (a6.tx_lo ht).1
    exact ⟨hm.1 _ (by omega) (by omega), hm.1 _ (by omega) (by omega)⟩
  · have := a6.s_lo hs
    exact hm.1 _ (by omega) (by omega)
  · have := a6.p_lo hp
    exact hm.1 _ (by omega) (by omega)
/-- the statement by whose phrases is matched -/
def byIs (D : Dt) (sa : Nat → Nat) (by0 : Option Nat) (ps : List Nat) : Prop := (by0 = none ∧ ps = []) ∨ ∃ (s : Nat) (st : Stt), D.2.2.1[s]? = some st ∧ by0 = some (sa s) ∧ ps = st.2.2.2
def okI (x : It) : Prop := 0 < x.1 → wd x.1 = true
/-- what a step of matching leaves -/
def AftS (en o r : Nat) (st : StpT) (I : TI) (v : Int32) (I' : TI) : Prop := offM I I' o r ∧ v = (if st.1 = 0 then nI (en - st.2.1.length) else st.1) ∧ I' o 12 = st.2.2.2 ∧ (st.1 = 0 → RowIs I' r st.2.2.1)
theorem matchAt_loop (C : Cx p s m args meth c (AM K sz) G RX5 cX5_matchAt 11) (hr : meth.sig.returnType = (some .int)) {q r i en : Nat} {by0 : Option Nat} {t out : List It} {x : It} {n : Nat} (h : ClsRep K N I R o sz tx sa pa D) (hwf : WfD D) (hW : rowW o r) (hR : rowP K N R r) (ho : RowIs I r out) (hQ : rowP K N R q) (hq : RowIs I q t) (hql : o + 21 ≤ q) (he : en ≤ t.length) (hi : i < en) (hx : t[i]? = some x) (hw : 0 < n → wd x.1 = true) {sb : Nat} {st : Stt} (hs : 0 < n → D.2.2.1[sb]? = some st ∧ by0 = some (sa sb) ∧ n = st.2.2.2.length) :
    ∀ (k j : Nat), k + j = n → (∀ v I', AftS en o r (stepR D (tryL D (if 0 < n then st.2.2.2.drop j else []) (seg t i en)) x (seg t (i + 1) en) out (I o 12)) I v I' → φ v I') → WI p l e s m args below meth c G (d + 3) φ K N R L sz 11 27 [(0, .ref o), (1, .ref q), (2, .int (nI i)), (3, .int (nI en)), (4, va_rf by0), (5, .ref r), (6, .int (nI n)), (7, .int (nI j))] I
  | 0, j, hk, hφ => by
    have h3 := hq.2.1
    have hn8 : n ≤ 8 := by
      rcases Nat.eq_zero_or_pos n with z | z
      · omega
      · obtain ⟨g1, -, g3⟩ := hs z
        have := (h.2.2.2.1 sb st g1).2.2.2.2.2.2.2.1
        omega
    have hl : tryL D (if 0 < n then st.2.2.2.drop j else []) (seg t i en) = none := by
      split
      · rename_i z
        rw [List.drop_eq_nil_of_le (by have := (hs z).2.2; omega)]; rfl
      · rfl
    rw [hl] at hφ
    refine vX5_matchAt_27 (d := d + 2) C hr ⟨fun _ => ⟨hR.1, _, tX1_addSame hR ho hQ hq hx, fun r4 I5 h4 => ?_⟩, fun z => absurd (nI_le (by omega) (by omega)) z⟩
    have hrow : o < r ∨ r + 6 < o := by unfold rowW at hW; omega
    have hor : ¬ (o = r) := by omega
    have hz : z01 x.2.2.2.2.2 := (hq.2.2 i x hx).2
    have ho12 : addI I r out.length x o 12 = I o 12 := by rw [addI_off o hrow]
    unfold stepR at hφ
    rcases h4 with ⟨hn, rfl, rfl⟩ | ⟨hn, rfl, rfl⟩
    · refine ⟨fun z => absurd z (by decide), fun _ => hφ _ _ ?_⟩
      simp only [hn, if_true]
      refine ⟨offRow.toM addI_off hrow, ?_, ho12, fun _ => addI_row ho hn hz⟩
      simp only [if_true, seg_len he]
      rw [nI_1, show en - (en - (i + 1)) = i + 1 by omega]
    · refine ⟨fun _ => hφ _ _ ?_, fun z => absurd rfl z⟩
      simp only [show ¬ out.length < 300 by omega, if_false]
      exact ⟨offM.rf, by rw [if_neg (show ¬ (-3 : Int32) = 0 by decide)], rfl, fun z => absurd z (show ¬ (-3 : Int32) = 0 by decide)⟩
  | k + 1, j, hk, hφ => by
    have h3 := hq.2.1
    have hn0 : 0 < n := by omega
    obtain ⟨g1, g2, g3⟩ := hs hn0
    obtain ⟨c1, c2, c3⟩ := h.2.2.2.1 sb st g1
    have hn8 : n ≤ 8 := by have := c3.2.2.2.2.2.1; omega
    have hjl : j < st.2.2.2.length := by omega
    have hrow : o < r ∨ r + 6 < o := by unfold rowW at hW; omega
    have hap : rowsApart r q := by unfold rowW at hW; unfold rowsApart; omega
    rw [if_pos hn0, List.drop_eq_getElem_cons hjl] at hφ
    have hpl : st.2.2.2[j] < D.2.2.2.length := hwf.2.1 st (List.mem_of_getElem? g1) _ (List.getElem_mem hjl)
    obtain ⟨ph, hph⟩ : ∃ ph, D.2.2.2[st.2.2.2[j]]? = some ph := ⟨_, List.getElem?_eq_getElem hpl⟩
    have hokp : okP ph := hwf.2.2.1 ph (List.mem_of_getElem? hph)
    obtain ⟨b1, b2, b3⟩ := h.2.2.2.2.1 _ ph hph
    have hplo := h.2.2.2.2.2.p_lo hpl
    unfold tryL at hφ
    rw [hph] at hφ
    refine vX5_matchAt_27 (d := d + 2) C hr ⟨fun z => absurd z (nI_ge (by omega) (by omega)), fun _ => ⟨sa sb, g2, c2.1, _, tX2_get c2 c3.2.2.2.2.1 c3.2.2.2.2.2.1 hjl (c3.2.2.2.2.2.2 j _ (List.getElem?_eq_getElem hjl)), fun r15 I16 h15 => ?_⟩⟩
    obtain ⟨rfl, h15⟩ := h15
    obtain rfl := h15.symm
    refine ⟨fun z => (by cases z), fun b22 hb => ?_⟩
    have hb := Option.some.inj hb
    subst hb
    refine ⟨_, tX5_behindMatch b2 b3 hokp hQ hq he hi hx (hw hn0), fun r36 I37 h36 => ?_⟩
    obtain ⟨rfl, h36⟩ := h36
    obtain rfl := h36.symm
    cases hm : phM ph (seg t i en) with
    | none =>
      simp only [hm] at hφ
      refine ⟨fun _ => ?_, fun z => absurd (show (-1 : Int32) ≤ nI i by rw [Int32.le_iff_toInt_le, nI_toInt (by omega)]; have : (-1 : Int32).toInt = -1 := rfl; omega) z⟩
      rw [nI_1, ← g2]
      exact matchAt_loop C hr h hwf hW hR ho hQ hq hql he hi hx hw hs k (j + 1) (by omega) (by rw [if_pos hn0]; exact hφ)
    | some rr =>
      simp only [hm] at hφ
      have hlt := (phM_lt hokp hm).1
      rw [seg_len he] at hlt
      simp only [bhI]
      refine ⟨fun z => absurd z (nI_ge (by omega) (by omega)), fun _ => ⟨h.1.1, fun I44 e44 => ?_⟩⟩
      have hm44 : offM I I44 o r := by rw [e44]; exact offM_mt
      have hrm : RowIs I44 r out := ho.off (fun a z1 z2 => by rw [e44]; exact u2_ne _ _ (by unfold rowW at hW; omega))
      have h44 : I44 o 12 = I o 12 + 1 := by rw [e44]; exact u2_self _ _ _ _
      have hh : ph.1 ≠ 0 → hasN ph.1 (hd0 ph.2.1) x.1.toNatClampNeg = true := by
        intro z
        unfold phM at hm
        rw [if_neg z, seg_cons hi hx] at hm
        simp only at hm
        split at hm
        · assumption
        · cases hm
      refine ⟨_, tX5_put b2 (b3.off (fun k hk => hm44.1 _ (by omega) (by unfold rowW at hW; omega))) hokp hQ (hm44.row hq hap (by omega)) hx (hw hn0) hh hR hrm hap (by unfold rowW at hW; omega), fun r47 I48 h47 => ?_⟩
      obtain ⟨f1, rfl, f3⟩ := h47
      have hA : ∀ v, v = (if (putL ph st.2.2.2[j] x out).1 = 0 then nI (en - rr.length) else (putL ph st.2.2.2[j] x out).1) → φ v I48 := fun v hv => hφ _ _ (by
        unfold stepR
        simp only [hph]
        exact ⟨hm44.tr (f1.toM hrow), hv, by rw [f1 o hrow]; exact h44, f3⟩)
      exact ⟨fun z => hA _ (by rw [if_neg z]), fun z => hA _ (by rw [if_pos z])⟩
theorem tX5_matchAt {q r i en : Nat} {by0 : Option Nat} {ps : List Nat} {t out : List It} {x : It} (h : ClsRep K N I R o sz tx sa pa D) (hwf : WfD D) (hW : rowW o r) (hR : rowP K N R r) (ho : RowIs I r out) (hQ : rowP K N R q) (hq : RowIs I q t) (hql : o + 21 ≤ q) (he : en ≤ t.length) (hi : i < en) (hx : t[i]? = some x) (hw : okI x) (hb : byIs D sa by0 ps) : MtI l G yX5_matchAt cX5_matchAt 11 (some .int) (d + 3) [.ref o, .ref q, .int (nI i), .int (nI en), va_rf by0, .ref r] K N I R L sz (AftS en o r (stepS D ps x (seg t (i + 1) en) out (I o 12)) I) := by
  refine sX5_matchAt (d := d + 2) (fun p e s m args below meth c C hr => ⟨fun z => ?_, fun b1 hb1 => ⟨hQ.1, _, tX1_code hQ hq hx, fun r5 I6 h5 => ?_⟩⟩)
  · subst z
    rcases hb with ⟨-, rfl⟩ | ⟨s, st, h1, h2, -⟩
    · refine matchAt_loop (n := 0) (sb := 0) (st := (true, 0, true, [])) C hr h hwf hW hR ho hQ hq hql he hi hx (fun z => absurd z (by omega)) (fun z => absurd z (by omega)) 0 0 rfl (fun v I' hv => ?_)
      unfold stepS
      rw [if_neg (by omega)] at hv
      rw [show (if 0 < x.1 then tryL D [] (x :: seg t (i + 1) en) else none) = none by split <;> rfl]
      exact hv
    · cases h2
  · subst hb1
    obtain ⟨rfl, rfl⟩ := h5
    rcases hb with ⟨h2, -⟩ | ⟨sb, st, h1, h2, rfl⟩
    · cases h2
    · have h2 := Option.some.inj h2
      subst h2
      obtain ⟨c1, c2, c3⟩ := h.2.2.2.1 sb st h1
      refine ⟨fun z => ⟨c2.1, ?_⟩, fun z => ?_⟩
      · rw [c3.2.2.2.2.1]
        refine matchAt_loop (n := st.2.2.2.length) (sb := sb) (st := st) C hr h hwf hW hR ho hQ hq hql he hi hx (fun _ => hw z) (fun _ => ⟨h1, rfl, rfl⟩) _ 0 rfl (fun v I' hv => ?_)
        unfold stepS
        rw [if_pos z, ← seg_cons hi hx]
        rw [List.drop_zero] at hv
        split at hv
        · exact hv
        · rename_i z2
          rw [List.eq_nil_of_length_eq_zero (show st.2.2.2.length = 0 by omega)]
          exact hv
      · refine matchAt_loop (n := 0) (sb := 0) (st := (true, 0, true, [])) C hr h hwf hW hR ho hQ hq hql he hi hx (fun z => absurd z (by omega)) (fun z => absurd z (by omega)) 0 0 rfl (fun v I' hv => ?_)
        unfold stepS
        rw [if_neg (by omega)] at hv
        rw [if_neg z]
        exact hv
/-- what matching a part leaves -/
def AftM (o r : Nat) (x : Int32 × List It × Int32) (I : TI) (v : Int32) (I' : TI) : Prop := offM I I' o r ∧ v = x.1 ∧ I' o 12 = x.2.2 ∧ (x.1 = 0 → RowIs I' r x.2.1)
theorem matchPart_loop (C : Cx p s m args meth c (AM K sz) G RX5 cX5_matchPart 8) (hr : meth.sig.returnType = (some .int)) {q r en : Nat} {by0 : Option Nat} {ps : List Nat} {t : List It} (hwf : WfD D) (hW : rowW o r) (hR : rowP K N R r) (hQ : rowP K N R q) (hql : o + 21 ≤ q) (he : en ≤ t.length) (hw : ∀ x ∈ t, okI x) (hb : byIs D sa by0 ps) :
    ∀ (k i b n : Nat) (out : List It) (I : TI), k + i = en → i ≤ b → b ≤ en → en - b ≤ n → ClsRep K N I R o sz tx sa pa D → RowIs I r out → RowIs I q t → (∀ v I', AftM o r (matchS D ps n (seg t b en) out (I o 12)) I v I' → φ v I') → WI p l e s m args below meth c G (d + 4) φ K N R L sz 8 6 [(0, .ref o), (1, .ref q), (3, .int (nI en)), (4, va_rf by0), (5, .ref r), (6, .int (nI b)), (7, .int (nI i))] I
  | 0, i, b, n, out, I, hk, hib, hbe, hn, h, ho, hq, hφ => by
    have h3 := hq.2.1
    refine vX5_matchPart_6 (d := d + 3) C hr ⟨fun _ => hφ _ _ ?_, fun z => absurd (nI_le (by omega) (by omega)) z⟩
    rw [seg_nil (by omega)]
    have : matchS D ps n [] out (I o 12) = (0, out, I o 12) := by cases n <;> rfl
    rw [this]
    exact ⟨offM.rf, rfl, rfl, fun _ => ho⟩
  | k + 1, i, b, n, out, I, hk, hib, hbe, hn, h, ho, hq, hφ => by
    have h3 := hq.2.1
    have hap : rowsApart r q := by unfold rowW at hW; unfold rowsApart; omega
    refine vX5_matchPart_6 (d := d + 3) C hr ⟨fun z => absurd z (nI_ge (by omega) (by omega)), fun _ => ⟨fun z => ?_, fun z => ?_⟩⟩
    · have hbi : b = i := by rw [nI_leI (by omega) (by omega)] at z; omega
      subst hbi
      obtain ⟨x, hx, hs⟩ := seg_get (t := t) (j := b) (e := en) (by omega) he
      refine ⟨h.1.1, _, tX5_matchAt h hwf hW hR ho hQ hq hql he (by omega) hx (hw x (List.mem_of_getElem? hx)) hb, fun r4 I5 h4 => ?_⟩
      obtain ⟨f1, f2, f3, f4⟩ := h4
      obtain ⟨n, rfl⟩ : ∃ n', n = n' + 1 := ⟨n - 1, by omega⟩
      rw [hs] at hφ
      unfold matchS at hφ
      have hlt := stepS_lt hwf (ps := ps) (x := x) (t := seg t (b + 1) en) (out := out) (mt := I o 12)
      have hsuf := hlt.2
      have hle := hlt.1
      rw [seg_len he] at hle
      by_cases hz : (stepS D ps x (seg t (b + 1) en) out (I o 12)).1 = 0
      · rw [if_pos hz] at f2 hφ
        subst f2
        refine ⟨fun _ => ?_, fun z2 => absurd ((nI_leI (a := 0) (by decide) (by omega)).mpr (Nat.zero_le _)) z2⟩
        rw [nI_1]
        have hsg := seg_suf he (by omega) hsuf
        refine matchPart_loop C hr hwf hW hR hQ hql he hw hb k (b + 1) _ n _ I5 (by omega) (by omega) (by omega) (by omega) (h.offM hW f1) (f4 hz) (f1.row hq hap (by omega)) (fun v I' hv => hφ v I' ?_)
        rw [← hsg, f3] at hv
        exact ⟨f1.tr hv.1, hv.2⟩
      · rw [if_neg hz] at f2 hφ
        have hneg := stepS_neg (D := D) (ps := ps) (x := x) (t := seg t (b + 1) en) (out := out) (mt := I o 12)
        rw [← f2] at hneg hz
        have hv := hφ r4 I5 ⟨f1, f2, f3, fun z2 => absurd (f2.trans z2) hz⟩
        refine ⟨fun z2 => ?_, fun _ => hv⟩
        rcases hneg with q1 | q1 | q1
        · exact absurd q1 hz
        · rw [q1] at z2; exact absurd z2 (by decide)
        · rw [q1] at z2; exact absurd z2 (by decide)
    · rw [nI_leI (by omega) (by omega)] at z
      rw [nI_1]
      exact matchPart_loop C hr hwf hW hR hQ hql he hw hb k (i + 1) b n out I (by omega) (by omega) hbe hn h ho hq hφ
theorem tX5_matchPart {q r i en : Nat} {by0 : Option Nat} {ps : List Nat} {t out : List It} (h : ClsRep K N I R o sz tx sa pa D) (hwf : WfD D) (hW : rowW o r) (hR : rowP K N R r) (ho : RowIs I r out) (hQ : rowP K N R q) (hq : RowIs I q t) (hql : o + 21 ≤ q) (hi : i ≤ en) (he : en ≤ t.length) (hw : ∀ x ∈ t, okI x) (hb : byIs D sa by0 ps) : MtI l G yX5_matchPart cX5_matchPart 8 (some .int) (d + 4) [.ref o, .ref q, .int (nI i), .int (nI en), va_rf by0, .ref r] K N I R L sz (AftM o r (matchS D ps (en - i) (seg t i en) out (I o 12)) I) := by
  refine sX5_matchPart (d := d + 3) (fun p e s m args below meth c C hr => ?_)
  exact matchPart_loop C hr hwf hW hR hQ hql he hw hb (en - i) i i (en - i) out I (by omega) (Nat.le_refl _) hi (Nat.le_refl _) h ho hq (fun v I' hv => hv)
end MATCH
