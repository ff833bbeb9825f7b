/-! the class's calls that make cells: phrase -/
def addPh (D : Dt) (j : Nat) (st : Stt) (k w : Int32) : Dt := (D.1, D.2.1, D.2.2.1.set j (st.1, st.2.1, st.2.2.1, st.2.2.2 ++ [D.2.2.2.length]), D.2.2.2 ++ [(k, [w], [])])
def kdOk (k : Int32) : Bool := decide (¬ k < 0) && decide (¬ 2 < k)
def fPhr (D : Dt) (s k w : Int32) : Int32 × Dt := match nOf D.2.2.1.length s with
  | none => (-2, D)
  | some j => match D.2.2.1[j]? with
    | none => (-2, D)
    | some st => if kdOk k && wd w then (if D.2.2.2.length < 100 ∧ st.2.2.2.length < 8 then (nI (D.2.2.2.length + 1), addPh D j st k w) else (-1, D)) else (-4, D)
section PHR
variable {l : Launch} {G : Gx} {d : Nat} {K N : TK} {I : TI} {R : TR} {L : TL} {sz : Nat} {o : Nat} {tx sa pa : Nat → Nat} {D : Dt} {res : List It} {ring : List Int32} {cp mt : Int32}
theorem tX5_phrase {s k w : Int32} (h : ClsRep K N I R o sz tx sa pa D) (hw : WfD D) (hr : ClsRun I o res ring cp mt) : MtAI l G yX5_phrase cX5_phrase 6 (some .int) (d + 3) 5 28 [.ref o, .int s, .int k, .int w] K N I R L sz (AftA K N I R o res ring cp mt (fPhr D s k w)) := by
  obtain ⟨a1, a2, a3, a4, a5, a6⟩ := id h
  have h60 := a2.2.2.2.2.1
  have h100 := a2.2.2.2.2.2
  have hsz := a6.1.2
  have same : ∀ x : Int32 × Dt, x.2 = D → AftA K N I R o res ring cp mt x x.1 K N I R sz := fun x hx => ⟨rfl, ⟨tx, sa, pa, by rw [hx]; exact h⟩, hr, keepA.rf⟩
  refine sX5_phrase (d := d + 2) ⟨a1.1, _, tX5_statementNumbered a1 a2 a4, fun v I' hv => ?_⟩
  obtain ⟨hv, hI⟩ := hv
  rw [hv, hI]
  refine ⟨fun q => ?_, fun b hb => ?_⟩
  · have : nOf D.2.2.1.length s = none := by simpa using q
    have hf : fPhr D s k w = (-2, D) := by unfold fPhr; rw [this]
    rw [hf]; exact same (-2, D) rfl
  · obtain ⟨j, hj, rfl⟩ : ∃ j, nOf D.2.2.1.length s = some j ∧ sa j = b := by simpa using hb
    obtain ⟨hj1, -⟩ := nOf_spec (by omega) hj
    obtain ⟨st, hst⟩ : ∃ st, D.2.2.1[j]? = some st := ⟨_, List.getElem?_eq_getElem hj1⟩
    obtain ⟨s1, s2, s3⟩ := a4 j st hst
    have hslo := a6.2.2.1 j hj1
    have hf0 : fPhr D s k w = if kdOk k && wd w then (if D.2.2.2.length < 100 ∧ st.2.2.2.length < 8 then (nI (D.2.2.2.length + 1), addPh D j st k w) else (-1, D)) else (-4, D) := by unfold fPhr; rw [hj]; simp only [hst]
    rw [hf0]
    refine ⟨fun q => ?_, fun q => ⟨fun q2 => ?_, fun q2 => ⟨_, tX5_isWord, fun v I2 hv => ?_⟩⟩⟩
    · rw [if_neg (by simp [kdOk, q])]; exact same (-4, D) rfl
    · rw [if_neg (by simp [kdOk, q2])]; exact same (-4, D) rfl
    · obtain ⟨hv, hI2⟩ := hv
      rw [hv, hI2]
      refine ⟨fun q3 => ?_, fun q3 => ?_⟩
      · rw [b2i_ne0] at q3
        rw [if_pos (by simp [kdOk, q, q2, q3])]
        have hle : 100 ≤ I o 5 ↔ 100 ≤ D.2.2.2.length := by rw [a2.2.2.1]; exact nI_leI (a := 100) (by decide) (by omega)
        have h8 := s3.2.2.2.2.2.1
        have hlt : I (sa j) 5 < 8 ↔ st.2.2.2.length < 8 := by rw [s3.2.2.2.2.1]; exact nI_ltI (by omega) (b := 8) (by decide)
        refine ⟨fun q4 => ?_, fun q4 => ⟨s2.1, fun q5 K1 e1 I1 e2 R1 e3 z1 e4 => ?_, fun q5 => ?_⟩⟩
        · rw [hle] at q4
          rw [if_neg (by omega)]; exact same (-1, D) rfl
        · rw [hle] at q4
          have hnp : D.2.2.2.length < 100 := by omega
          have hn8 := hlt.mp q5
          rw [if_pos ⟨hnp, hn8⟩]
          subst e4
          have hI1o : I1 o 5 = nI D.2.2.2.length := by rw [e2, va_up_ne _ _ (by omega)]; exact a2.2.2.1
          refine ⟨by rw [e1, va_up_ne _ _ (by omega)]; exact a1.1, _, tX0_init (by rw [e1, va_up_self]), fun K2 N2 I3 R2 z2 hx => ?_⟩
          obtain ⟨x1, x2, x3, x4, x5, rfl, x7⟩ := hx
          refine ⟨x1.1, sz + 1, x1.2.1, x1.2.2.1.1, _, tX4_append x1.2.2.1 x4 (by decide), fun I4 hI4 => ?_⟩
          have hI4o : ∀ a, a ≠ sz + 1 → a ≠ sz + 2 → I4 a = I3 a := fun a q6 q7 => by rw [hI4]; exact wapp_off q6 q7
          have hfr : ∀ a, a < sz → K2 a = K a ∧ N2 a = N a ∧ I4 a = I a ∧ R2 a = R a := fun a ha => by
            obtain ⟨y1, y2, y3, y4⟩ := x7 a ha
            exact ⟨by rw [y1, e1, va_up_ne _ _ (by omega)], y2, by rw [hI4o a (by omega) (by omega), y3, e2, va_up_ne _ _ (by omega)], by rw [y4, e3, va_up_ne _ _ (by omega)]⟩
          have hsp : stmP K2 N2 R2 (sa j) := s2.mv (hfr _ (by omega)).1 (congrFun (hfr _ (by omega)).2.2.2 4) (hfr _ (by omega)).1 (hfr _ (by omega)).2.1
          refine ⟨hsp.1, _, tX2_append hsp (by rw [(hfr (sa j) (by omega)).2.2.1]; exact s3.2.2.2.2.1) hn8 x1.1, fun I5 R3 hIR => ?_⟩
          obtain ⟨hI5, hR3⟩ := hIR
          have hI5o : I5 o 5 = nI D.2.2.2.length := by rw [hI5, u2_ne _ _ (by omega), (hfr o (by omega)).2.2.1]; exact a2.2.2.1
          refine ⟨by rw [(hfr o (by omega)).1]; exact a1.1, o + 3, by rw [hR3, u2_ne _ _ (by omega), (hfr o (by omega)).2.2.2]; exact a1.2.2.2.1.1, by rw [(hfr (o + 3) (by omega)).1]; exact a1.2.2.2.1.2.1, by rw [hI5o, (hfr (o + 3) (by omega)).2.1, a1.2.2.2.1.2.2]; exact vp_in_nI (by omega) (by decide), fun R4 e7 I6 e8 => ?_⟩
          rw [hI5o, nI_clamp (by omega)] at e7
          rw [hI5o, nI_1] at e8
          have hI6 : ∀ a, a ≠ o → a ≠ sa j → I6 a = I4 a := fun a q6 q7 => by rw [e8, u2_ne _ _ q6, hI5, u2_ne _ _ q7]
          have hR4 : ∀ a, a ≠ o + 3 → a ≠ sa j + 1 → R4 a = R2 a := fun a q6 q7 => by rw [e7, u2_ne _ _ q6, hR3, u2_ne _ _ q7]
          have hall : FrX K N I R K2 N2 I6 R4 sz (fun a => a = o ∨ a = o + 3 ∨ a = sa j ∨ a = sa j + 1) := fun a q6 q7 => by
            obtain ⟨y1, y2, y3, y4⟩ := hfr a q6
            exact ⟨y1, y2, by rw [hI6 a (by omega) (by omega)]; exact y3, by rw [hR4 a (by omega) (by omega)]; exact y4⟩
          have hpl' : ∀ p, p < D.2.2.2.length → va_up pa D.2.2.2.length sz p = pa p := fun p hp => va_up_ne _ _ (by omega)
          have hSR : ∀ s', s' < D.2.2.1.length → s' ≠ j → sa s' ≠ sa j ∧ sa s' ≠ sa j + 1 ∧ sa s' + 1 ≠ sa j := fun s' h1 h2 => by
            have := a6.ss h1 hj1 h2; omega
          refine ⟨by rw [hI6 _ (by omega) (by omega), hI4o _ (by omega) (by omega), x2, hI1o, nI_1], ⟨tx, sa, va_up pa D.2.2.2.length sz, ?_, ?_, ?_, ?_, ?_, ?_⟩, ?_, ?_⟩
          · refine a1.mv (fun a q1 q2 => ⟨(hfr a (by omega)).1, (hfr a (by omega)).2.1⟩) ?_ (fun a q1 q2 => (hall a (by omega) (by omega)).2.2.2)
            rw [hR4 _ (by omega) (by omega)]; exact (hfr o (by omega)).2.2.2
          · have fo : ∀ i, i ≠ 5 → I6 o i = I o i := fun i hi => by rw [e8, u2_nk _ _ hi, hI5, u2_ne _ _ (by omega), (hfr o (by omega)).2.2.1]
            refine ⟨by rw [fo 3 (by decide)]; exact a2.1, ?_, ?_, a2.2.2.2.1, ?_, ?_⟩
            · rw [fo 4 (by decide)]
              show I o 4 = nI (D.2.2.1.set j _).length
              rw [List.length_set]; exact a2.2.1
            · show I6 o 5 = nI (D.2.2.2 ++ [_]).length
              rw [e8, u2_self]; simp
            · show (D.2.2.1.set j _).length ≤ 60
              rw [List.length_set]; exact h60
            · show (D.2.2.2 ++ [_]).length ≤ 100
              simp; omega
          · have hT : ClsT K2 N2 I6 R4 o tx D := growT a3 a6 hall (fun t ht i hi => by have := (a6.tx_lo ht).1; have := a6.ts ht hj1; omega) (fun t ht => by rw [hR4 _ (by omega) (by omega), (hfr (o + 1) (by omega)).2.2.2])
            exact hT
          · intro s' st' hs'
            have hs2 : (D.2.2.1.set j (st.1, st.2.1, st.2.2.1, st.2.2.2 ++ [D.2.2.2.length]))[s']? = some st' := hs'
            have hsl : s' < D.2.2.1.length := by have := (List.getElem?_eq_some_iff.mp hs2).1; simpa using this
            have hRo : R4 (o + 2) s' = R (o + 2) s' := by rw [hR4 _ (by omega) (by omega), (hfr (o + 2) (by omega)).2.2.2]
            by_cases hsj : s' = j
            · subst hsj
              rw [List.getElem?_set_self hsl] at hs2
              cases hs2
              refine ⟨by rw [hRo]; exact s1, hsp.mv rfl ?_ rfl rfl, ?_⟩
              · rw [hR4 _ (by omega) (by omega)]
              · have fI : ∀ i, i ≠ 5 → I6 (sa s') i = I (sa s') i := fun i hi => by rw [e8, u2_ne _ _ (by omega), hI5, u2_nk _ _ hi, (hfr _ (by omega)).2.2.1]
                refine ⟨by rw [fI 0 (by decide)]; exact s3.1, by rw [fI 1 (by decide)]; exact s3.2.1, by rw [fI 2 (by decide)]; exact s3.2.2.1, by rw [fI 3 (by decide)]; exact s3.2.2.2.1, ?_, by simp; omega, fun i p hip => ?_⟩
                · rw [e8, u2_ne _ _ (by omega), hI5, u2_self]; simp
                · have hip2 : (st.2.2.2 ++ [D.2.2.2.length])[i]? = some p := hip
                  have hRs : R4 (sa s' + 1) = u2 R2 (sa s' + 1) st.2.2.2.length (some sz) (sa s' + 1) := by rw [e7, u2_ne _ _ (by omega), hR3]
                  by_cases hi : i < st.2.2.2.length
                  · rw [List.getElem?_append_left hi] at hip2
                    have hpn := hw.2.1 st (List.mem_of_getElem? hst) p (List.mem_of_getElem? hip2)
                    rw [hRs, u2_nk _ _ (by omega), (hfr _ (by omega)).2.2.2, hpl' p hpn]
                    exact s3.2.2.2.2.2.2 i p hip2
                  · rw [List.getElem?_append_right (by omega)] at hip2
                    have hi0 : i = st.2.2.2.length := by
                      have := (List.getElem?_eq_some_iff.mp hip2).1
                      simp at this; omega
                    subst hi0
                    simp at hip2
                    subst hip2
                    rw [hRs, u2_self, va_up_self]
            · rw [List.getElem?_set_ne (fun z => hsj z.symm)] at hs2
              have hb := a6.2.2.1 s' hsl
              have hne := hSR s' hsl hsj
              exact growS (a4 s' st' hs2) hb.2 hall ⟨by omega, by omega⟩ hRo (fun p hp => hpl' p (hw.2.1 st' (List.mem_of_getElem? hs2) p hp))
          · intro p ph hp
            have hp2 : (D.2.2.2 ++ [((k, [w], []) : Phr)])[p]? = some ph := hp
            by_cases hpl : p < D.2.2.2.length
            · rw [List.getElem?_append_left hpl] at hp2
              have hb := a6.2.2.2.1 p hpl
              have hsp2 := a6.sp hj1 hpl
              rw [hpl' p hpl]
              exact growP (a5 p ph hp2) hb.2 hall (fun i hi => by omega) (by rw [e7, u2_nk _ _ (by omega), hR3, u2_ne _ _ (by omega), (hfr (o + 3) (by omega)).2.2.2])
            · rw [List.getElem?_append_right (by omega)] at hp2
              have hp0 : p = D.2.2.2.length := by
                have := (List.getElem?_eq_some_iff.mp hp2).1
                simp at this; omega
              subst hp0
              simp at hp2
              subst hp2
              rw [va_up_self]
              have e4w : WrdD I4 (sz + 1) [w] := by rw [hI4]; exact wapp_D x4 (by decide)
              refine ⟨by rw [e7, u2_self], x1.mv (fun i hi => ⟨rfl, rfl, hR4 _ (by omega) (by omega)⟩), ?_, ?_, ?_, ?_⟩
              · rw [hI6 _ (by omega) (by omega), hI4o _ (by omega) (by omega), x2, hI1o, nI_1]
              · rw [hI6 _ (by omega) (by omega), hI4o _ (by omega) (by omega)]; exact x3
              · exact e4w.off (hI6 _ (by omega) (by omega)) (hI6 _ (by omega) (by omega))
              · exact x5.off (by rw [hI6 _ (by omega) (by omega), hI4o _ (by omega) (by omega)]) (by rw [hI6 _ (by omega) (by omega), hI4o _ (by omega) (by omega)])
          · show Lay o (sz + 5) tx sa _ D.1.length (D.2.2.1.set j _).length (D.2.2.2 ++ [((k, [w], []) : Phr)]).length
            rw [List.length_append, List.length_set, show ([((k, [w], []) : Phr)]).length = 1 from rfl]
            have a6' : Lay o sz tx sa pa D.1.length D.2.2.1.length D.2.2.2.length := a6
            obtain ⟨l1, l2, l3, l4, l5, l6, l7, l8, l9, l10⟩ := id a6'
            refine ⟨⟨l1.1, by omega⟩, fun t h0 ht => ⟨(l2 t h0 ht).1, by have := (l2 t h0 ht).2; omega⟩, fun s hs => ⟨(l3 s hs).1, by have := (l3 s hs).2; omega⟩, fun p hp => ?_, l5, l6, fun p p' hpp hp => ?_, l8, fun t p ht hp => ?_, fun s p hs hp => ?_⟩
            · by_cases hpn : p = D.2.2.2.length
              · subst hpn; rw [va_up_self]; omega
              · rw [hpl' p (by omega)]; have := l4 p (by omega); omega
            · by_cases hpn : p' = D.2.2.2.length
              · subst hpn; rw [va_up_self, hpl' p (by omega)]; exact (l4 p (by omega)).2
              · rw [hpl' p (by omega), hpl' p' (by omega)]; exact l7 p p' hpp (by omega)
            · by_cases hpn : p = D.2.2.2.length
              · subst hpn; rw [va_up_self]; exact Or.inl (Lay.tx_hi a6' ht)
              · rw [hpl' p (by omega)]; exact l9 t p ht (by omega)
            · by_cases hpn : p = D.2.2.2.length
              · subst hpn; rw [va_up_self]; exact Or.inl (l3 s hs).2
              · rw [hpl' p (by omega)]; exact l10 s p hs (by omega)
          · obtain ⟨r1, r2, r3, r4, r5, r6⟩ := hr
            have f19 := (hall (o + 19) (by omega) (by omega)).2.2.1
            have fo : ∀ i, i ≠ 5 → I6 o i = I o i := fun i hi => by rw [e8, u2_nk _ _ hi, hI5, u2_ne _ _ (by omega), (hfr o (by omega)).2.2.1]
            exact ⟨r1.off (fun a q1 q2 => (hall a (by omega) (by omega)).2.2.1), by rw [fo 10 (by decide)]; exact r2, r3, by rw [f19]; exact r4, by rw [fo 11 (by decide)]; exact r5, by rw [fo 12 (by decide)]; exact r6⟩
          · exact fun a q1 q2 => hall a (by omega) (by omega)
        · have hn8 : ¬ st.2.2.2.length < 8 := fun z => q5 (hlt.mpr z)
          rw [if_neg (by omega)]; exact same (-1, D) rfl
      · rw [b2i_eq0] at q3
        rw [if_neg (by simp [q3])]; exact same (-4, D) rfl
end PHR
