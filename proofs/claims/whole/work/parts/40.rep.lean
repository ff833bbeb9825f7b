/-! the data, and how the class holds it -/
/-- a statement: copy?, name, suppressed, its phrases (from 0) -/
abbrev Stt : Type := Bool × Int32 × Bool × List Nat
/-- a phrase: kind, from, to -/
abbrev Phr : Type := Int32 × List Int32 × List Int32
/-- names of the libraries; entries of the texts (as the reference writes them); statements; phrases -/
abbrev Dt : Type := List Int32 × (Nat → List Int32) × List Stt × List Phr
/-- an entry's number in the class -/
def cv (e : Int32) : Int32 := if e = -3000 then -2 else if e < -2000 then -100 - (-2000 - e) else if e < -1000 then -100 - (-1000 - e) else e
def nameOf (D : Dt) (t : Nat) : Int32 := if t = 0 then -1 else D.1.getD (t - 1) 0
def ClsF (K N : TK) (R : TR) (o : Nat) : Prop := K o = 16 ∧ (R o 0 = some (o + 1) ∧ K (o + 1) = 25 ∧ N (o + 1) = 13) ∧ (R o 1 = some (o + 2) ∧ K (o + 2) = 24 ∧ N (o + 2) = 60) ∧ (R o 2 = some (o + 3) ∧ K (o + 3) = 23 ∧ N (o + 3) = 100) ∧ (R o 6 = some (o + 4) ∧ K (o + 4) = 25 ∧ N (o + 4) = 13) ∧ (R o 7 = some (o + 5) ∧ rowP K N R (o + 5)) ∧ (R o 8 = some (o + 12) ∧ rowP K N R (o + 12)) ∧ R o 9 = some (o + 19) ∧ K (o + 19) = 20 ∧ N (o + 19) = 13
def ClsC (I : TI) (o : Nat) (D : Dt) : Prop := I o 3 = nI (D.1.length + 1) ∧ I o 4 = nI D.2.2.1.length ∧ I o 5 = nI D.2.2.2.length ∧ D.1.length ≤ 12 ∧ D.2.2.1.length ≤ 60 ∧ D.2.2.2.length ≤ 100
def TxD (I : TI) (a t : Nat) (nm : Int32) (es : List Int32) : Prop := I a 0 = nI t ∧ I a 1 = nm ∧ TxE I a es
def ClsT (K N : TK) (I : TI) (R : TR) (o : Nat) (tx : Nat → Nat) (D : Dt) : Prop := ∀ t, t ≤ D.1.length → R (o + 1) t = some (tx t) ∧ txtP K N R (tx t) ∧ TxD I (tx t) t (nameOf D t) ((D.2.1 t).map cv)
def StD (I : TI) (R : TR) (a s : Nat) (st : Stt) (pa : Nat → Nat) : Prop := I a 0 = nI (s + 1) ∧ I a 1 = b2i st.1 ∧ (st.1 = true → I a 2 = st.2.1) ∧ I a 3 = b2i st.2.2.1 ∧ I a 5 = nI st.2.2.2.length ∧ st.2.2.2.length ≤ 8 ∧ ∀ (j p : Nat), st.2.2.2[j]? = some p → R (a + 1) j = some (pa p)
def ClsS (K N : TK) (I : TI) (R : TR) (o : Nat) (sa pa : Nat → Nat) (D : Dt) : Prop := ∀ (s : Nat) (st : Stt), D.2.2.1[s]? = some st → R (o + 2) s = some (sa s) ∧ stmP K N R (sa s) ∧ StD I R (sa s) s st pa
def PhD (I : TI) (a p : Nat) (ph : Phr) : Prop := I a 0 = nI (p + 1) ∧ I a 1 = ph.1 ∧ WrdD I (a + 1) ph.2.1 ∧ WrdD I (a + 3) ph.2.2
def ClsP (K N : TK) (I : TI) (R : TR) (o : Nat) (pa : Nat → Nat) (D : Dt) : Prop := ∀ (p : Nat) (ph : Phr), D.2.2.2[p]? = some ph → R (o + 3) p = some (pa p) ∧ phrP K N R (pa p) ∧ PhD I (pa p) p ph
def Lay (o sz : Nat) (tx sa pa : Nat → Nat) (nt ns np : Nat) : Prop :=
  (tx 0 = o + 20 ∧ o + 55 ≤ sz) ∧ (∀ t, 0 < t → t ≤ nt → o + 55 ≤ tx t ∧ tx t + 9 ≤ sz) ∧ (∀ s, s < ns → o + 55 ≤ sa s ∧ sa s + 2 ≤ sz) ∧ (∀ p, p < np → o + 55 ≤ pa p ∧ pa p + 5 ≤ sz) ∧
  (∀ t t', t < t' → t' ≤ nt → tx t + 9 ≤ tx t') ∧ (∀ s s', s < s' → s' < ns → sa s + 2 ≤ sa s') ∧ (∀ p p', p < p' → p' < np → pa p + 5 ≤ pa p') ∧
  (∀ t s, t ≤ nt → s < ns → tx t + 9 ≤ sa s ∨ sa s + 2 ≤ tx t) ∧ (∀ t p, t ≤ nt → p < np → tx t + 9 ≤ pa p ∨ pa p + 5 ≤ tx t) ∧ (∀ s p, s < ns → p < np → sa s + 2 ≤ pa p ∨ pa p + 5 ≤ sa s)
def LayD (o sz : Nat) (tx sa pa : Nat → Nat) (D : Dt) : Prop := Lay o sz tx sa pa D.1.length D.2.2.1.length D.2.2.2.length
/-- the data is as the methods make it -/
def okE (D : Dt) (e : Int32) : Prop := plOk e = true ∨ e = -3000 ∨ ∃ (s : Nat) (st : Stt), D.2.2.1[s]? = some st ∧ ((st.1 = true ∧ e = -1000 - nI (s + 1)) ∨ (st.1 = false ∧ e = -2000 - nI (s + 1)))
def okP (ph : Phr) : Prop := (ph.1 = 0 ∨ ph.1 = 1 ∨ ph.1 = 2) ∧ 0 < ph.2.1.length ∧ (∀ x ∈ ph.2.1, wd x = true) ∧ (∀ x ∈ ph.2.2, plOk x = true) ∧ (ph.1 ≠ 0 → ph.2.1.length = 1 ∧ ph.2.2.length ≤ 1 ∧ ∀ x ∈ ph.2.2, wd x = true)
def WfD (D : Dt) : Prop := (∀ t, ∀ e ∈ D.2.1 t, okE D e) ∧ (∀ st ∈ D.2.2.1, ∀ p ∈ st.2.2.2, p < D.2.2.2.length) ∧ (∀ ph ∈ D.2.2.2, okP ph) ∧ (∀ t, D.1.length < t → D.2.1 t = []) ∧ ∀ t, (D.2.1 t).length ≤ 200
def ClsRep (K N : TK) (I : TI) (R : TR) (o sz : Nat) (tx sa pa : Nat → Nat) (D : Dt) : Prop := ClsF K N R o ∧ ClsC I o D ∧ ClsT K N I R o tx D ∧ ClsS K N I R o sa pa D ∧ ClsP K N I R o pa D ∧ LayD o sz tx sa pa D
/-- what the latest run left -/
def ClsRun (I : TI) (o : Nat) (res : List It) (ring : List Int32) (cp mt : Int32) : Prop := RowIs I (o + 12) res ∧ I o 10 = nI ring.length ∧ ring.length ≤ 13 ∧ ListAt (I (o + 19)) ring ∧ I o 11 = cp ∧ I o 12 = mt
/-- which text, statement, phrase a number names (statements and phrases from 0) -/
def tOf (D : Dt) (x : Int32) : Option Nat := if hasB (D.1.length + 1) x then some x.toNatClampNeg else none
def nOf (n : Nat) (x : Int32) : Option Nat := if x < 1 ∨ nI n < x then none else some (x.toNatClampNeg - 1)
theorem tOf_spec {D : Dt} {x : Int32} {t : Nat} (hn : D.1.length ≤ 12) (h : tOf D x = some t) : t ≤ D.1.length ∧ x = nI t := by
  unfold tOf at h
  split at h
  · rename_i hb
    obtain ⟨j, hj, rfl⟩ := hasB_spec (by omega) hb
    rw [nI_clamp (by omega)] at h
    cases h
    exact ⟨by omega, rfl⟩
  · cases h
theorem nOf_spec {n : Nat} {x : Int32} {s : Nat} (hn : n < 2 ^ 30) (h : nOf n x = some s) : s < n ∧ x = nI (s + 1) := by
  unfold nOf at h
  split at h
  · cases h
  · rename_i hb
    have h0 : ¬ x < 0 := fun q => hb (Or.inl (by
      rw [Int32.lt_iff_toInt_lt] at q ⊢
      have h1 : (1 : Int32).toInt = 1 := rfl
      have h2 : (0 : Int32).toInt = 0 := rfl
      omega))
    obtain ⟨j, hj, rfl⟩ := nI_of h0
    have h1 : ¬ nI j < 1 := fun q => hb (Or.inl q)
    have h2 : ¬ nI n < nI j := fun q => hb (Or.inr q)
    rw [show (1 : Int32) = nI 1 from rfl, nI_ltI hj (by decide)] at h1
    rw [nI_ltI (by omega) hj] at h2
    rw [nI_clamp hj] at h
    cases h
    exact ⟨by omega, by rw [Nat.sub_add_cancel (by omega)]⟩
theorem nOf_nI {n s : Nat} (hn : n < 2 ^ 30) (hs : s < n) : nOf n (nI (s + 1)) = some s := by
  unfold nOf
  rw [if_neg, nI_clamp (by omega)]
  · rfl
  · rw [show (1 : Int32) = nI 1 from rfl, nI_ltI (by omega) (by decide), nI_ltI (by omega) (by omega)]; omega
section LOOK
variable {p : Program} {l : Launch} {e : Env} {s : State} {m : MethodId} {args : Array Value} {below : List Frame} {meth : Method} {c : Code} {G : Gx} {d : Nat} {K N : TK} {I : TI} {R : TR} {L : TL} {sz : Nat} {o : Nat} {tx sa pa : Nat → Nat} {D : Dt} {φ : Option Nat → TI → Prop}
theorem tX5_textNumbered {x : Int32} (hF : ClsF K N R o) (hC : ClsC I o D) (hT : ClsT K N I R o tx D) : MtR l G yX5_textNumbered cX5_textNumbered 2 (some (.object "CopyReplace$Text")) d [.ref o, .int x] K N I R L sz (fun v I' => v = (tOf D x).map tx ∧ I' = I) := by
  have h12 := hC.2.2.2.1
  refine sX5_textNumbered ⟨fun q => ⟨?_, rfl⟩, fun q => ⟨hF.1, fun q2 => ⟨?_, rfl⟩, fun q2 => ⟨o + 1, hF.2.1.1, hF.2.1.2.1, fun q3 => ⟨?_, rfl⟩, fun q3 => ?_⟩⟩⟩
  · simp [tOf, hasB, q]
  · rw [hC.1] at q2; simp [tOf, hasB, q2]
  · exfalso
    rw [hF.2.1.2.2] at q3
    rw [hC.1] at q2
    obtain ⟨j, hj, rfl⟩ := nI_of q
    rw [nI_leI (by decide) hj] at q3
    rw [nI_leI (by omega) hj] at q2
    omega
  · rw [hC.1] at q2
    obtain ⟨j, hj, rfl⟩ := nI_of q
    have q2' : j < D.1.length + 1 := by rw [nI_leI (by omega) hj] at q2; omega
    refine ⟨by rw [hF.2.1.2.2]; exact vp_in_nI (by omega) (by decide), tx j, ?_, ?_, rfl⟩
    · rw [nI_clamp hj]; exact (hT j (by omega)).1
    · have : hasB (D.1.length + 1) (nI j) = true := by rw [hasB_nI hj (by omega)]; simp [q2']
      simp [tOf, this, nI_clamp hj]
theorem num_aux {x : Int32} {n : Nat} (hn : n < 2 ^ 30) (q : ¬ x < 1) (q2 : ¬ nI n < x) : ∃ j, j < n ∧ x = nI (j + 1) ∧ x - 1 = nI j ∧ nOf n x = some j := by
  have h0 : nOf n x = some (x.toNatClampNeg - 1) := by unfold nOf; rw [if_neg (by intro z; rcases z with z | z; exact q z; exact q2 z)]
  obtain ⟨h1, h2⟩ := nOf_spec hn h0
  exact ⟨_, h1, h2, by rw [h2, nI_pred, ← h2], h0⟩
theorem tX5_statementNumbered {x : Int32} (hF : ClsF K N R o) (hC : ClsC I o D) (hS : ClsS K N I R o sa pa D) : MtR l G yX5_statementNumbered cX5_statementNumbered 2 (some (.object "CopyReplace$Statement")) d [.ref o, .int x] K N I R L sz (fun v I' => v = (nOf D.2.2.1.length x).map sa ∧ I' = I) := by
  have h12 := hC.2.2.2.2.1
  refine sX5_statementNumbered ⟨fun q => ⟨?_, rfl⟩, fun q => ⟨hF.1, fun q2 => ⟨?_, rfl⟩, fun q2 => ⟨o + 2, hF.2.2.1.1, hF.2.2.1.2.1, fun q3 => ⟨?_, rfl⟩, fun q3 => ?_⟩⟩⟩
  · simp [nOf, q]
  · rw [hC.2.1] at q2; simp [nOf, q2]
  · exfalso
    rw [hC.2.1] at q2
    obtain ⟨j, h1, h2, h3, h4⟩ := num_aux (by omega) q q2
    rw [hF.2.2.1.2.2, h2, nI_ltI (by decide) (by omega)] at q3
    omega
  · rw [hC.2.1] at q2
    obtain ⟨j, h1, h2, h3, h4⟩ := num_aux (by omega) q q2
    obtain ⟨st, hst⟩ : ∃ st, D.2.2.1[j]? = some st := ⟨_, List.getElem?_eq_getElem h1⟩
    rw [h3, nI_clamp (by omega), h4]
    exact ⟨by rw [hF.2.2.1.2.2]; exact vp_in_nI (by omega) (by decide), sa j, (hS j st hst).1, rfl, rfl⟩
theorem tX5_phraseNumbered {x : Int32} (hF : ClsF K N R o) (hC : ClsC I o D) (hP : ClsP K N I R o pa D) : MtR l G yX5_phraseNumbered cX5_phraseNumbered 2 (some (.object "CopyReplace$Phrase")) d [.ref o, .int x] K N I R L sz (fun v I' => v = (nOf D.2.2.2.length x).map pa ∧ I' = I) := by
  have h12 := hC.2.2.2.2.2
  refine sX5_phraseNumbered ⟨fun q => ⟨?_, rfl⟩, fun q => ⟨hF.1, fun q2 => ⟨?_, rfl⟩, fun q2 => ⟨o + 3, hF.2.2.2.1.1, hF.2.2.2.1.2.1, fun q3 => ⟨?_, rfl⟩, fun q3 => ?_⟩⟩⟩
  · simp [nOf, q]
  · rw [hC.2.2.1] at q2; simp [nOf, q2]
  · exfalso
    rw [hC.2.2.1] at q2
    obtain ⟨j, h1, h2, h3, h4⟩ := num_aux (by omega) q q2
    rw [hF.2.2.2.1.2.2, h2, nI_ltI (by decide) (by omega)] at q3
    omega
  · rw [hC.2.2.1] at q2
    obtain ⟨j, h1, h2, h3, h4⟩ := num_aux (by omega) q q2
    obtain ⟨ph, hph⟩ : ∃ ph, D.2.2.2[j]? = some ph := ⟨_, List.getElem?_eq_getElem h1⟩
    rw [h3, nI_clamp (by omega), h4]
    exact ⟨by rw [hF.2.2.2.1.2.2]; exact vp_in_nI (by omega) (by decide), pa j, (hP j ph hph).1, rfl, rfl⟩
theorem tX5_statementOf {x : Int32} (hF : ClsF K N R o) (hC : ClsC I o D) (hS : ClsS K N I R o sa pa D) : MtR l G yX5_statementOf cX5_statementOf 2 (some (.object "CopyReplace$Statement")) (d + 1) [.ref o, .int x] K N I R L sz (fun v I' => v = (if (-100) ≤ x then none else (nOf D.2.2.1.length (-100 - x)).map sa) ∧ I' = I) := by
  refine sX5_statementOf ⟨fun q => ⟨by rw [if_pos q], rfl⟩, fun q => ⟨hF.1, _, tX5_statementNumbered hF hC hS, fun v I' hv => ⟨by rw [if_neg q]; exact hv.1, hv.2⟩⟩⟩
/-- the first library of a name -/
def tNm (D : Dt) (x : Int32) : Option Nat := (D.1.findIdx? (fun y => y == x)).map (· + 1)
theorem textNamed_loop (C : Cx p s m args meth c (AM K sz) G RX5 cX5_textNamed 4) (hr : meth.sig.returnType = (some (.object "CopyReplace$Text"))) {x : Int32} (hF : ClsF K N R o) (hC : ClsC I o D) (hT : ClsT K N I R o tx D) : ∀ (k j : Nat), k + j = D.1.length → φ (((D.1.drop j).findIdx? (fun y => y == x)).map (fun i => tx (i + j + 1))) I → WR p l e s m args below meth c G (d + 1) φ K N R L sz 4 2 [(0, .ref o), (1, .int x), (2, .int (nI (j + 1)))] I
  | 0, j, hk, h => by
    have h12 := hC.2.2.2.1
    have hj : j = D.1.length := by omega
    rw [hj, List.drop_length] at h
    refine vX5_textNamed_2 C hr ⟨hF.1, fun _ => h, fun q => absurd (by rw [hC.1, hj]; exact nI_le (Nat.le_refl _) (by omega)) q⟩
  | k + 1, j, hk, h => by
    have h12 := hC.2.2.2.1
    have hj : j < D.1.length := by omega
    refine vX5_textNamed_2 C hr ⟨hF.1, fun q => absurd q (by rw [hC.1]; exact nI_ge (by omega) (by omega)), fun _ => ⟨_, tX5_textNumbered hF hC hT, fun v I' hv => ?_⟩⟩
    obtain ⟨hv, hI⟩ := hv
    have hO : tOf D (nI (j + 1)) = some (j + 1) := by
      have : hasB (D.1.length + 1) (nI (j + 1)) = true := by rw [hasB_nI (by omega) (by omega)]; simp; omega
      simp [tOf, this, nI_clamp (show j + 1 < 2 ^ 31 by omega)]
    rw [hv, hI, hO]
    refine ⟨fun q => absurd q (by simp), fun b hb => ?_⟩
    have hb' : tx (j + 1) = b := Option.some.inj hb
    subst hb'
    obtain ⟨-, hP, -, hnm, -⟩ := hT (j + 1) (by omega)
    have hnm2 : nameOf D (j + 1) = D.1[j] := by simp [nameOf, List.getD_eq_getElem?_getD, List.getElem?_eq_getElem hj]
    rw [hnm2] at hnm
    rw [List.drop_eq_getElem_cons hj, List.findIdx?_cons] at h
    refine ⟨hP.1, fun q => ?_, fun q => ?_⟩
    · rw [hnm] at q
      rw [if_neg (by simpa using q)] at h
      rw [nI_1]
      refine textNamed_loop C hr hF hC hT k (j + 1) (by omega) ?_
      simp only [Option.map_map] at h
      have he : ((fun i => tx (i + j + 1)) ∘ fun i => i + 1) = (fun i => tx (i + (j + 1) + 1)) := by funext i; simp only [Function.comp]; congr 1; omega
      rw [he] at h; exact h
    · rw [hnm] at q
      rw [if_pos (by simpa using q)] at h
      simpa using h
theorem tX5_textNamed {x : Int32} (hF : ClsF K N R o) (hC : ClsC I o D) (hT : ClsT K N I R o tx D) : MtR l G yX5_textNamed cX5_textNamed 4 (some (.object "CopyReplace$Text")) (d + 1) [.ref o, .int x] K N I R L sz (fun v I' => v = (tNm D x).map tx ∧ I' = I) := by
  refine sX5_textNamed (fun p e s m args below meth c C hr => textNamed_loop C hr hF hC hT D.1.length 0 (by omega) ⟨?_, rfl⟩)
  simp [tNm, Option.map_map, Function.comp_def]
end LOOK
