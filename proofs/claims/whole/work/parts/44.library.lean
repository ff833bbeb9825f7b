/-! the class's calls that make cells: library -/
theorem txtP.mv {K N K' N' : TK} {R R' : TR} {a : Nat} (h : txtP K N R a) (hs : ∀ k, k ≤ 8 → K' (a + k) = K (a + k) ∧ N' (a + k) = N (a + k) ∧ R' (a + k) = R (a + k)) : txtP K' N' R' a := by
  obtain ⟨h1, h2, h3, h4, h5, h6⟩ := h
  have e0 := hs 0 (by omega)
  have e8 := hs 8 (by omega)
  refine ⟨by rw [← h1]; exact e0.1, by rw [← h2]; exact congrFun e0.2.2 2, h3.off (fun b q1 q2 => ?_), by rw [← h4]; exact congrFun e0.2.2 3, by rw [e8.1]; exact h5, by rw [e8.2.1]; exact h6⟩
  have := hs (b - a) (by omega)
  rw [show a + (b - a) = b by omega] at this
  exact this
theorem stmP.mv {K N K' N' : TK} {R R' : TR} {a : Nat} (h : stmP K N R a) (h0 : K' a = K a) (h1 : R' a 4 = R a 4) (h2 : K' (a + 1) = K (a + 1)) (h3 : N' (a + 1) = N (a + 1)) : stmP K' N' R' a := by
  unfold stmP; rw [h0, h1, h2, h3]; exact h
theorem phrP.mv {K N K' N' : TK} {R R' : TR} {a : Nat} (h : phrP K N R a) (hs : ∀ k, k ≤ 4 → K' (a + k) = K (a + k) ∧ N' (a + k) = N (a + k) ∧ R' (a + k) = R (a + k)) : phrP K' N' R' a := by
  obtain ⟨h1, h2, h3, h4, h5⟩ := h
  have e0 := hs 0 (by omega)
  have e1 := hs 1 (by omega)
  have e2 := hs 2 (by omega)
  have e3 := hs 3 (by omega)
  have e4 := hs 4 (by omega)
  exact ⟨by rw [← h1]; exact e0.1, by rw [← h2]; exact congrFun e0.2.2 2, h3.off e1.1 e1.2.2 e2.1 e2.2.1, by rw [← h4]; exact congrFun e0.2.2 3, h5.off e3.1 e3.2.2 e4.1 e4.2.1⟩
theorem ClsF.mv {K N K' N' : TK} {R R' : TR} {o : Nat} (h : ClsF K N R o) (hs : ∀ a, o ≤ a → a ≤ o + 19 → K' a = K a ∧ N' a = N a) (h0 : R' o = R o) (hR : ∀ a, o + 5 ≤ a → a ≤ o + 18 → R' a = R a) : ClsF K' N' R' o := by
  obtain ⟨a1, ⟨a2, a3, a4⟩, ⟨a5, a6, a7⟩, ⟨a8, a9, b1⟩, ⟨b2, b3, b4⟩, ⟨b5, b6⟩, ⟨b7, b8⟩, b9, c1, c2⟩ := h
  have e : ∀ k, k ≤ 19 → K' (o + k) = K (o + k) ∧ N' (o + k) = N (o + k) := fun k hk => hs (o + k) (by omega) (by omega)
  refine ⟨by rw [(hs o (by omega) (by omega)).1]; exact a1, ⟨by rw [h0]; exact a2, by rw [(e 1 (by omega)).1]; exact a3, by rw [(e 1 (by omega)).2]; exact a4⟩, ⟨by rw [h0]; exact a5, by rw [(e 2 (by omega)).1]; exact a6, by rw [(e 2 (by omega)).2]; exact a7⟩, ⟨by rw [h0]; exact a8, by rw [(e 3 (by omega)).1]; exact a9, by rw [(e 3 (by omega)).2]; exact b1⟩, ⟨by rw [h0]; exact b2, by rw [(e 4 (by omega)).1]; exact b3, by rw [(e 4 (by omega)).2]; exact b4⟩, ⟨by rw [h0]; exact b5, b6.off (fun a q1 q2 => ⟨(hs a (by omega) (by omega)).1, (hs a (by omega) (by omega)).2, hR a (by omega) (by omega)⟩)⟩, ⟨by rw [h0]; exact b7, b8.off (fun a q1 q2 => ⟨(hs a (by omega) (by omega)).1, (hs a (by omega) (by omega)).2, hR a (by omega) (by omega)⟩)⟩, by rw [h0]; exact b9, by rw [(e 19 (by omega)).1]; exact c1, by rw [(e 19 (by omega)).2]; exact c2⟩
theorem StD.mv {I I' : TI} {R R' : TR} {a s : Nat} {st : Stt} {pa pa' : Nat → Nat} (h : StD I R a s st pa) (h0 : I' a = I a) (h1 : R' (a + 1) = R (a + 1)) (hp : ∀ p ∈ st.2.2.2, pa' p = pa p) : StD I' R' a s st pa' := by
  obtain ⟨a1, a2, a3, a4, a5, a6, a7⟩ := h
  refine ⟨by rw [h0]; exact a1, by rw [h0]; exact a2, by rw [h0]; exact a3, by rw [h0]; exact a4, by rw [h0]; exact a5, a6, fun j p hj => ?_⟩
  rw [h1, hp p (List.mem_of_getElem? hj)]; exact a7 j p hj
/-- the other side's cells stay, of all sorts -/
def keepA (K N : TK) (I : TI) (R : TR) (K' N' : TK) (I' : TI) (R' : TR) (o : Nat) : Prop := ∀ a, o + 29 ≤ a → a < o + 55 → K' a = K a ∧ N' a = N a ∧ I' a = I a ∧ R' a = R a
theorem keepA.rf {K N : TK} {I : TI} {R : TR} {o : Nat} : keepA K N I R K N I R o := fun _ _ _ => ⟨rfl, rfl, rfl, rfl⟩
/-- what holds behind a call that may make cells -/
def AftA (K N : TK) (I : TI) (R : TR) (o : Nat) (res : List It) (ring : List Int32) (cp mt : Int32) (x : Int32 × Dt) (v : Int32) (K' N' : TK) (I' : TI) (R' : TR) (sz' : Nat) : Prop := v = x.1 ∧ (∃ tx sa pa, ClsRep K' N' I' R' o sz' tx sa pa x.2) ∧ ClsRun I' o res ring cp mt ∧ keepA K N I R K' N' I' R' o
def fLib (D : Dt) (x : Int32) : Int32 × Dt := if nmOk x then (if D.1.length < 12 then (nI (D.1.length + 1), (D.1 ++ [x], D.2)) else (-1, D)) else (-4, D)
section LIBR
variable {l : Launch} {G : Gx} {d : Nat} {K N : TK} {I : TI} {R : TR} {L : TL} {sz : Nat} {o : Nat} {tx sa pa : Nat → Nat} {D : Dt} {res : List It} {ring : List Int32} {cp mt : Int32}
theorem nameOf_app {D : Dt} {x : Int32} {t : Nat} (ht : t ≤ D.1.length) : nameOf (D.1 ++ [x], D.2) t = nameOf D t := by
  unfold nameOf
  by_cases h0 : t = 0
  · simp [h0]
  · rw [if_neg h0, if_neg h0]
    simp only [List.getD_eq_getElem?_getD]
    rw [List.getElem?_append_left (by omega)]
theorem tX5_library {x : Int32} (h : ClsRep K N I R o sz tx sa pa D) (hw : WfD D) (hr : ClsRun I o res ring cp mt) : MtAI l G yX5_library cX5_library 3 (some .int) (d + 3) 9 2012 [.ref o, .int x] K N I R L sz (AftA K N I R o res ring cp mt (fLib D x)) := by
  obtain ⟨a1, a2, a3, a4, a5, a6⟩ := id h
  have h12 := a2.2.2.2.1
  have hsz := a6.1.2
  refine sX5_library (d := d + 2) ⟨_, tX5_isName, fun v I' hv => ?_⟩
  obtain ⟨rfl, rfl⟩ := hv
  refine ⟨fun q => ⟨a1.1, fun q2 => ⟨o + 1, a1.2.1.1, fun K1 e1 I1 e2 R1 e3 z1 e4 => ?_⟩, fun q2 => ?_⟩, fun q => ?_⟩
  · rw [b2i_ne0] at q
    rw [a2.1] at q2 ⊢
    have hlt : D.1.length < 12 := by
      have := (nI_leI (by omega) (b := 12) (by decide)).mp q2; omega
    subst e4
    refine ⟨_, tX3_init (by rw [e1, va_up_self]) (by rw [e2, va_up_self]), fun K2 N2 I2 R2 z2 hx => ?_⟩
    obtain ⟨x1, x2, x3, x4, x5, rfl, x7⟩ := hx
    have hfr : ∀ a, a < sz → K2 a = K a ∧ N2 a = N a ∧ I2 a = I' a ∧ R2 a = R a := fun a ha => by
      obtain ⟨y1, y2, y3, y4⟩ := x7 a ha
      exact ⟨by rw [y1, e1, va_up_ne _ _ (by omega)], y2, by rw [y3, e2, va_up_ne _ _ (by omega)], by rw [y4, e3, va_up_ne _ _ (by omega)]⟩
    refine ⟨by rw [(hfr (o + 1) (by omega)).1]; exact a1.2.1.2.1, by rw [(hfr (o + 1) (by omega)).2.1, a1.2.1.2.2]; exact vp_in_nI (by omega) (by decide), x1.1, fun R3 e5 => ⟨by rw [(hfr o (by omega)).1]; exact a1.1, fun I3 e6 => ?_⟩⟩
    rw [nI_clamp (by omega)] at e5
    rw [(hfr o (by omega)).2.2.1, a2.1, nI_1] at e6
    have hI3 : ∀ a, a ≠ o → I3 a = I2 a := fun a ha => by rw [e6, u2_ne _ _ ha]
    have hR3 : ∀ a, a ≠ o + 1 → R3 a = R2 a := fun a ha => by rw [e5, u2_ne _ _ ha]
    have hall : ∀ a, a < sz → a ≠ o → a ≠ o + 1 → K2 a = K a ∧ N2 a = N a ∧ I3 a = I' a ∧ R3 a = R a := fun a q1 q2 q3 => by
      obtain ⟨y1, y2, y3, y4⟩ := hfr a q1
      exact ⟨y1, y2, by rw [hI3 a q2]; exact y3, by rw [hR3 a q3]; exact y4⟩
    have hf : fLib D x = (nI (D.1.length + 1), (D.1 ++ [x], D.2)) := by unfold fLib; rw [if_pos q, if_pos hlt]
    rw [hf]
    refine ⟨rfl, ⟨va_up tx (D.1.length + 1) sz, sa, pa, ?_, ?_, ?_, ?_, ?_, ?_⟩, ?_, ?_⟩
    · refine a1.mv (fun a q1 q2 => ⟨(hfr a (by omega)).1, (hfr a (by omega)).2.1⟩) ?_ (fun a q1 q2 => (hall a (by omega) (by omega) (by omega)).2.2.2)
      rw [hR3 _ (by omega)]; exact (hfr o (by omega)).2.2.2
    · refine ⟨by rw [e6, u2_self]; simp, ?_, ?_, by simp; omega, a2.2.2.2.2.1, a2.2.2.2.2.2⟩
      · rw [e6, u2_nk _ _ (by decide), (hfr o (by omega)).2.2.1]; exact a2.2.1
      · rw [e6, u2_nk _ _ (by decide), (hfr o (by omega)).2.2.1]; exact a2.2.2.1
    · intro t ht
      have ht' : t ≤ D.1.length + 1 := by simpa using ht
      by_cases htn : t = D.1.length + 1
      · subst htn
        rw [va_up_self]
        refine ⟨by rw [e5, u2_self], x1.mv (fun k hk => ⟨rfl, rfl, hR3 _ (by omega)⟩), ?_, ?_, ?_⟩
        · rw [hI3 _ (by omega)]; exact x2
        · rw [hI3 _ (by omega), x3]
          simp [nameOf, List.getD_eq_getElem?_getD]
        · rw [hw.2.2.2.1 (D.1.length + 1) (by omega)]
          show TxE I3 sz []
          unfold TxE
          rw [hI3 _ (by omega), hI3 _ (by omega)]
          exact x4
      · have htl : t ≤ D.1.length := by omega
        obtain ⟨b1, b2, b3⟩ := a3 t htl
        have hlo := a6.tx_lo htl
        have hhi : tx t + 9 ≤ sz := by
          by_cases h0 : t = 0
          · subst h0; rw [a6.1.1]; omega
          · exact (a6.2.1 t (by omega) htl).2
        rw [va_up_ne _ _ htn, nameOf_app htl]
        refine ⟨?_, b2.mv (fun k hk => ?_), b3.off (hall _ (by omega) (by omega) (by omega)).2.2.1 (hall _ (by omega) (by omega) (by omega)).2.2.1⟩
        · rw [e5, u2_nk _ _ htn, (hfr (o + 1) (by omega)).2.2.2]; exact b1
        · have := hall (tx t + k) (by omega) (by omega) (by omega)
          exact ⟨this.1, this.2.1, this.2.2.2⟩
    · intro s st hs
      obtain ⟨b1, b2, b3⟩ := a4 s st hs
      have hsl := (List.getElem?_eq_some_iff.mp hs).1
      have hlo := a6.2.2.1 s hsl
      have f0 := hall (sa s) (by omega) (by omega) (by omega)
      have f1 := hall (sa s + 1) (by omega) (by omega) (by omega)
      exact ⟨by rw [(hall (o + 2) (by omega) (by omega) (by omega)).2.2.2]; exact b1, b2.mv f0.1 (congrFun f0.2.2.2 4) f1.1 f1.2.1, b3.mv f0.2.2.1 f1.2.2.2 (fun _ _ => rfl)⟩
    · intro p ph hp
      obtain ⟨b1, b2, b3⟩ := a5 p ph hp
      have hpl := (List.getElem?_eq_some_iff.mp hp).1
      have hlo := a6.2.2.2.1 p hpl
      refine ⟨by rw [(hall (o + 3) (by omega) (by omega) (by omega)).2.2.2]; exact b1, b2.mv (fun k hk => ?_), b3.off (fun k hk => (hall (pa p + k) (by omega) (by omega) (by omega)).2.2.1)⟩
      have := hall (pa p + k) (by omega) (by omega) (by omega)
      exact ⟨this.1, this.2.1, this.2.2.2⟩
    · obtain ⟨l1, l2, l3, l4, l5, l6, l7, l8, l9, l10⟩ := a6
      have hup : ∀ t, t ≤ D.1.length → va_up tx (D.1.length + 1) sz t = tx t := fun t ht => va_up_ne _ _ (by omega)
      have hhi : ∀ t, t ≤ D.1.length → tx t + 9 ≤ sz := fun t ht => by
        by_cases h0 : t = 0
        · subst h0; rw [l1.1]; omega
        · exact (l2 t (by omega) ht).2
      show Lay o (sz + 9) _ sa pa (D.1 ++ [x]).length D.2.2.1.length D.2.2.2.length
      rw [List.length_append, show ([x] : List Int32).length = 1 from rfl]
      refine ⟨⟨by rw [hup 0 (by omega)]; exact l1.1, by omega⟩, fun t h0 ht => ?_, fun s hs => ⟨(l3 s hs).1, by have := (l3 s hs).2; omega⟩, fun p hp => ⟨(l4 p hp).1, by have := (l4 p hp).2; omega⟩, fun t t' htt ht => ?_, l6, l7, fun t s ht hs => ?_, fun t p ht hp => ?_, l10⟩
      · by_cases htn : t = D.1.length + 1
        · subst htn; rw [va_up_self]; omega
        · rw [hup t (by omega)]; have := l2 t h0 (by omega); omega
      · by_cases htn : t' = D.1.length + 1
        · subst htn; rw [va_up_self, hup t (by omega)]; exact hhi t (by omega)
        · rw [hup t (by omega), hup t' (by omega)]; exact l5 t t' htt (by omega)
      · by_cases htn : t = D.1.length + 1
        · subst htn; rw [va_up_self]; exact Or.inr (l3 s hs).2
        · rw [hup t (by omega)]; exact l8 t s (by omega) hs
      · by_cases htn : t = D.1.length + 1
        · subst htn; rw [va_up_self]; exact Or.inr (l4 p hp).2
        · rw [hup t (by omega)]; exact l9 t p (by omega) hp
    · obtain ⟨r1, r2, r3, r4, r5, r6⟩ := hr
      have f19 := (hall (o + 19) (by omega) (by omega) (by omega)).2.2.1
      have fo : ∀ k, k ≠ 3 → I3 o k = I' o k := fun k hk => by rw [e6, u2_nk _ _ hk, (hfr o (by omega)).2.2.1]
      exact ⟨r1.off (fun a q1 q2 => (hall a (by omega) (by omega) (by omega)).2.2.1), by rw [fo 10 (by decide)]; exact r2, r3, by rw [f19]; exact r4, by rw [fo 11 (by decide)]; exact r5, by rw [fo 12 (by decide)]; exact r6⟩
    · exact fun a q1 q2 => hall a (by omega) (by omega) (by omega)
  · rw [b2i_ne0] at q
    rw [a2.1] at q2
    have hlt : ¬ D.1.length < 12 := fun z => q2 (nI_le (b := 12) (by omega) (by decide))
    have hf : fLib D x = (-1, D) := by unfold fLib; rw [if_pos q, if_neg hlt]
    rw [hf]
    exact ⟨rfl, ⟨tx, sa, pa, h⟩, hr, keepA.rf⟩
  · rw [b2i_eq0] at q
    have hf : fLib D x = (-4, D) := by unfold fLib; rw [q]; rfl
    rw [hf]
    exact ⟨rfl, ⟨tx, sa, pa, h⟩, hr, keepA.rf⟩
end LIBR
