/-! the class's calls that make cells: copy, replace -/
/-- all cells below sz, but for some, are as they were -/
def FrX (K N : TK) (I : TI) (R : TR) (K' N' : TK) (I' : TI) (R' : TR) (sz : Nat) (X : Nat → Prop) : Prop := ∀ a, a < sz → ¬ X a → K' a = K a ∧ N' a = N a ∧ I' a = I a ∧ R' a = R a
section GROW
variable {K N K' N' : TK} {I I' : TI} {R R' : TR} {o sz : Nat} {tx sa pa : Nat → Nat} {D : Dt} {X : Nat → Prop}
theorem Lay.tx_hi {nt ns np : Nat} (h : Lay o sz tx sa pa nt ns np) {t : Nat} (ht : t ≤ nt) : tx t + 9 ≤ sz := by
  by_cases h0 : t = 0
  · subst h0; rw [h.1.1]; have := h.1.2; omega
  · exact (h.2.1 t (by omega) ht).2
theorem growT (a3 : ClsT K N I R o tx D) (a6 : LayD o sz tx sa pa D) (hf : FrX K N I R K' N' I' R' sz X) (hX : ∀ t, t ≤ D.1.length → ∀ k, k ≤ 8 → ¬ X (tx t + k)) (h1 : ∀ t, t ≤ D.1.length → R' (o + 1) t = R (o + 1) t) : ClsT K' N' I' R' o tx D := by
  intro t ht
  obtain ⟨b1, b2, b3⟩ := a3 t ht
  have hhi := Lay.tx_hi a6 ht
  have hk : ∀ k, k ≤ 8 → K' (tx t + k) = K (tx t + k) ∧ N' (tx t + k) = N (tx t + k) ∧ I' (tx t + k) = I (tx t + k) ∧ R' (tx t + k) = R (tx t + k) := fun k hk => hf _ (by omega) (hX t ht k hk)
  exact ⟨by rw [h1 t ht]; exact b1, b2.mv (fun k q => ⟨(hk k q).1, (hk k q).2.1, (hk k q).2.2.2⟩), b3.off (hk 0 (by omega)).2.2.1 (hk 8 (by omega)).2.2.1⟩
theorem growS {s : Nat} {st : Stt} {pa' : Nat → Nat} (h : R (o + 2) s = some (sa s) ∧ stmP K N R (sa s) ∧ StD I R (sa s) s st pa) (hhi : sa s + 2 ≤ sz) (hf : FrX K N I R K' N' I' R' sz X) (hX : ¬ X (sa s) ∧ ¬ X (sa s + 1)) (h1 : R' (o + 2) s = R (o + 2) s) (hp : ∀ p ∈ st.2.2.2, pa' p = pa p) : R' (o + 2) s = some (sa s) ∧ stmP K' N' R' (sa s) ∧ StD I' R' (sa s) s st pa' := by
  obtain ⟨b1, b2, b3⟩ := h
  have f0 := hf (sa s) (by omega) hX.1
  have f1 := hf (sa s + 1) (by omega) hX.2
  exact ⟨by rw [h1]; exact b1, b2.mv f0.1 (congrFun f0.2.2.2 4) f1.1 f1.2.1, b3.mv f0.2.2.1 f1.2.2.2 hp⟩
theorem growP {p : Nat} {ph : Phr} (h : R (o + 3) p = some (pa p) ∧ phrP K N R (pa p) ∧ PhD I (pa p) p ph) (hhi : pa p + 5 ≤ sz) (hf : FrX K N I R K' N' I' R' sz X) (hX : ∀ k, k ≤ 4 → ¬ X (pa p + k)) (h1 : R' (o + 3) p = R (o + 3) p) : R' (o + 3) p = some (pa p) ∧ phrP K' N' R' (pa p) ∧ PhD I' (pa p) p ph := by
  obtain ⟨b1, b2, b3⟩ := h
  have hk : ∀ k, k ≤ 4 → K' (pa p + k) = K (pa p + k) ∧ N' (pa p + k) = N (pa p + k) ∧ I' (pa p + k) = I (pa p + k) ∧ R' (pa p + k) = R (pa p + k) := fun k hk => hf _ (by omega) (hX k hk)
  exact ⟨by rw [h1]; exact b1, b2.mv (fun k q => ⟨(hk k q).1, (hk k q).2.1, (hk k q).2.2.2⟩), b3.off (fun k q => (hk k q).2.2.1)⟩
end GROW
def addS (D : Dt) (st : Stt) : Dt := (D.1, D.2.1, D.2.2.1 ++ [st], D.2.2.2)
def stE (c : Bool) (n : Nat) : Int32 := (if c then -1000 else -2000) - nI n
theorem cv_stE : ∀ n, n < 61 → ∀ c : Bool, 0 < n → cv (stE c n) = -100 - nI n := by decide +kernel
def fSt (D : Dt) (k : Nat) (c : Bool) (x : Int32) (hid : Bool) : Int32 × Dt := if D.2.2.1.length < 60 ∧ (D.2.1 k).length < 200 then (nI (D.2.2.1.length + 1), addS (addT D k (stE c (D.2.2.1.length + 1))) (c, x, hid, [])) else (-1, D)
section STM
variable {l : Launch} {G : Gx} {d : Nat} {K N : TK} {I : TI} {R : TR} {L : TL} {sz : Nat} {o : Nat} {tx sa pa : Nat → Nat} {D : Dt} {res : List It} {ring : List Int32} {cp mt : Int32}
theorem tX5_addStatement {k : Nat} {c hid : Bool} {x y : Int32} (hxy : c = true → y = x) (h : ClsRep K N I R o sz tx sa pa D) (hr : ClsRun I o res ring cp mt) (hk : k ≤ D.1.length) : MtAI l G yX5_addStatement cX5_addStatement 6 (some .int) (d + 2) 2 14 [.ref o, .ref (tx k), .int (b2i c), .int y, .int (b2i hid)] K N I R L sz (AftA K N I R o res ring cp mt (fSt D k c x hid)) := by
  obtain ⟨a1, a2, a3, a4, a5, a6⟩ := id h
  have h60 := a2.2.2.2.2.1
  have hsz := a6.1.2
  have hle : 60 ≤ I o 4 ↔ 60 ≤ D.2.2.1.length := by rw [a2.2.1]; exact nI_leI (a := 60) (by decide) (by omega)
  obtain ⟨-, t2, t3⟩ := a3 k hk
  have hlo := a6.tx_lo hk
  have hthi := Lay.tx_hi a6 hk
  refine sX5_addStatement (d := d + 1) ⟨a1.1, fun q => ?_, fun q => ⟨t2.1, _, tX3_append t2 t3.2.2, fun v I6 hv => ?_⟩⟩
  · rw [hle] at q
    have hf : fSt D k c x hid = (-1, D) := by unfold fSt; rw [if_neg (by omega)]
    rw [hf]; exact ⟨rfl, ⟨tx, sa, pa, h⟩, hr, keepA.rf⟩
  · rw [hle] at q
    have hns : D.2.2.1.length < 60 := by omega
    simp only [List.length_map] at hv
    rcases hv with ⟨hn, rfl, hI6⟩ | ⟨hn, rfl, rfl⟩
    · refine ⟨fun _ K1 e1 I1 e2 R1 e3 z1 e4 => ?_, fun z => absurd z (by decide)⟩
      rw [a2.2.1, nI_1, ← cv_stE (D.2.2.1.length + 1) (by omega) c (by omega)] at hI6
      have hc := h.addT (e := stE c (D.2.2.1.length + 1)) hk hn
      rw [← hI6] at hc
      have hr6 : ClsRun I6 o res ring cp mt := by rw [hI6]; exact hr.tapp hlo.1
      have hkeep6 : keepO I I6 o := by rw [hI6]; exact keepO.tapp hlo.2
      have ho6 : I6 o = I o := by rw [hI6]; exact tapp_off (by omega) (by omega)
      have hf : fSt D k c x hid = (nI (D.2.2.1.length + 1), addS (addT D k (stE c (D.2.2.1.length + 1))) (c, x, hid, [])) := by unfold fSt; rw [if_pos ⟨hns, hn⟩]
      rw [hf]
      generalize hD1 : addT D k (stE c (D.2.2.1.length + 1)) = D1 at hc
      have hl1 : D1.1 = D.1 := by rw [← hD1]; rfl
      have hl2 : D1.2.2 = D.2.2 := by rw [← hD1]; rfl
      obtain ⟨c1, c2, c3, c4, c5, c6⟩ := hc
      subst e4
      have hI1o : I1 o 4 = nI D.2.2.1.length := by rw [e2, va_up_ne _ _ (by omega), ho6]; exact a2.2.1
      refine ⟨by rw [e1, va_up_ne _ _ (by omega)]; exact a1.1, _, tX2_init (by rw [e1, va_up_self]) (b2i_01 c) (b2i_01 hid), fun K2 N2 I2 R2 z2 hx => ?_⟩
      obtain ⟨x1, x2, x3, x4, x5, x6, rfl, x8⟩ := hx
      have hfr : ∀ a, a < sz → K2 a = K a ∧ N2 a = N a ∧ I2 a = I6 a ∧ R2 a = R a := fun a ha => by
        obtain ⟨y1, y2, y3, y4⟩ := x8 a ha
        exact ⟨by rw [y1, e1, va_up_ne _ _ (by omega)], y2, by rw [y3, e2, va_up_ne _ _ (by omega)], by rw [y4, e3, va_up_ne _ _ (by omega)]⟩
      have hI2o : I2 o 4 = nI D.2.2.1.length := by rw [(hfr o (by omega)).2.2.1, ho6]; exact a2.2.1
      refine ⟨by rw [(hfr o (by omega)).1]; exact a1.1, o + 2, by rw [(hfr o (by omega)).2.2.2]; exact a1.2.2.1.1, by rw [(hfr (o + 2) (by omega)).1]; exact a1.2.2.1.2.1, by rw [hI2o, (hfr (o + 2) (by omega)).2.1, a1.2.2.1.2.2]; exact vp_in_nI (by omega) (by decide), x1.1, fun R3 e5 I3 e6 => ?_⟩
      rw [hI2o, nI_clamp (by omega)] at e5
      rw [hI2o, nI_1] at e6
      have hI3 : ∀ a, a ≠ o → I3 a = I2 a := fun a ha => by rw [e6, u2_ne _ _ ha]
      have hR3 : ∀ a, a ≠ o + 2 → R3 a = R2 a := fun a ha => by rw [e5, u2_ne _ _ ha]
      have hall : FrX K N I6 R K2 N2 I3 R3 sz (fun a => a = o ∨ a = o + 2) := fun a q1 q2 => by
        obtain ⟨y1, y2, y3, y4⟩ := hfr a q1
        exact ⟨y1, y2, by rw [hI3 a (fun z => q2 (Or.inl z))]; exact y3, by rw [hR3 a (fun z => q2 (Or.inr z))]; exact y4⟩
      refine ⟨by rw [hI3 _ (by omega), x2, hI1o, nI_1], ⟨tx, va_up sa D.2.2.1.length sz, pa, ?_, ?_, ?_, ?_, ?_, ?_⟩, ?_, ?_⟩
      · refine a1.mv (fun a q1 q2 => ⟨(hfr a (by omega)).1, (hfr a (by omega)).2.1⟩) ?_ (fun a q1 q2 => (hall a (by omega) (by omega)).2.2.2)
        rw [hR3 _ (by omega)]; exact (hfr o (by omega)).2.2.2
      · refine ⟨?_, ?_, ?_, by show D1.1.length ≤ 12; rw [hl1]; exact a2.2.2.2.1, ?_, ?_⟩
        · show I3 o 3 = nI (D1.1.length + 1)
          rw [e6, u2_nk _ _ (by decide), (hfr o (by omega)).2.2.1]; exact c2.1
        · show I3 o 4 = nI (D1.2.2.1 ++ [_]).length
          rw [e6, u2_self, hl2]; simp
        · show I3 o 5 = nI D1.2.2.2.length
          rw [e6, u2_nk _ _ (by decide), (hfr o (by omega)).2.2.1]; exact c2.2.2.1
        · show (D1.2.2.1 ++ [_]).length ≤ 60
          rw [hl2]; simp; omega
        · show D1.2.2.2.length ≤ 100
          rw [hl2]; exact a2.2.2.2.2.2
      · have hT : ClsT K2 N2 I3 R3 o tx D1 := growT c3 c6 hall (fun t ht j hj => by have := (c6.tx_lo ht).1; omega) (fun t ht => by rw [hR3 _ (by omega), (hfr (o + 1) (by omega)).2.2.2])
        exact hT
      · intro s st hs
        have hs2 : (D.2.2.1 ++ [((c, x, hid, []) : Stt)])[s]? = some st := by rw [← hl2]; exact hs
        by_cases hsl : s < D.2.2.1.length
        · rw [List.getElem?_append_left hsl] at hs2
          have hb := c6.2.2.1 s (by rw [hl2]; exact hsl)
          rw [va_up_ne _ _ (by omega)]
          exact growS (c4 s st (by rw [hl2]; exact hs2)) hb.2 hall ⟨by omega, by omega⟩ (by rw [e5, u2_nk _ _ (by omega), (hfr (o + 2) (by omega)).2.2.2]) (fun _ _ => rfl)
        · rw [List.getElem?_append_right (by omega)] at hs2
          have hs0 : s = D.2.2.1.length := by
            have := (List.getElem?_eq_some_iff.mp hs2).1
            simp at this; omega
          subst hs0
          simp at hs2
          subst hs2
          rw [va_up_self]
          refine ⟨by rw [e5, u2_self], x1.mv rfl (by rw [hR3 _ (by omega)]) rfl rfl, ?_⟩
          refine ⟨by rw [hI3 _ (by omega), x2, hI1o, nI_1], by rw [hI3 _ (by omega)]; exact x3, fun hct => by rw [hI3 _ (by omega), x4]; exact hxy hct, by rw [hI3 _ (by omega)]; exact x5, ?_, by simp, fun j p hj => by simp at hj⟩
          rw [hI3 _ (by omega), x6, e2, va_up_self]; rfl
      · intro p ph hp
        have hp2 : D1.2.2.2[p]? = some ph := hp
        have hpl := (List.getElem?_eq_some_iff.mp hp2).1
        have hb := c6.2.2.2.1 p hpl
        exact growP (c5 p ph hp2) hb.2 hall (fun j hj => by omega) (by rw [hR3 _ (by omega), (hfr (o + 3) (by omega)).2.2.2])
      · show Lay o (sz + 2) tx _ pa D1.1.length (D1.2.2.1 ++ [((c, x, hid, []) : Stt)]).length D1.2.2.2.length
        rw [List.length_append, show ([((c, x, hid, []) : Stt)]).length = 1 from rfl, hl1, hl2]
        have a6' : Lay o sz tx sa pa D.1.length D.2.2.1.length D.2.2.2.length := a6
        obtain ⟨l1, l2, l3, l4, l5, l6, l7, l8, l9, l10⟩ := id a6'
        have hup : ∀ s, s < D.2.2.1.length → va_up sa D.2.2.1.length sz s = sa s := fun s hs => va_up_ne _ _ (by omega)
        refine ⟨⟨l1.1, by omega⟩, fun t h0 ht => ⟨(l2 t h0 ht).1, by have := (l2 t h0 ht).2; omega⟩, fun s hs => ?_, fun p hp => ⟨(l4 p hp).1, by have := (l4 p hp).2; omega⟩, l5, fun s s' hss hs => ?_, l7, fun t s ht hs => ?_, l9, fun s p hs hp => ?_⟩
        · by_cases hsn : s = D.2.2.1.length
          · subst hsn; rw [va_up_self]; omega
          · rw [hup s (by omega)]; have := l3 s (by omega); omega
        · by_cases hsn : s' = D.2.2.1.length
          · subst hsn; rw [va_up_self, hup s (by omega)]; exact (l3 s (by omega)).2
          · rw [hup s (by omega), hup s' (by omega)]; exact l6 s s' hss (by omega)
        · by_cases hsn : s = D.2.2.1.length
          · subst hsn; rw [va_up_self]; exact Or.inl (Lay.tx_hi a6' ht)
          · rw [hup s (by omega)]; exact l8 t s ht (by omega)
        · by_cases hsn : s = D.2.2.1.length
          · subst hsn; rw [va_up_self]; exact Or.inr (l4 p hp).2
          · rw [hup s (by omega)]; exact l10 s p (by omega) hp
      · obtain ⟨r1, r2, r3, r4, r5, r6⟩ := hr6
        have f19 := (hall (o + 19) (by omega) (by omega)).2.2.1
        have fo : ∀ k, k ≠ 4 → I3 o k = I6 o k := fun k hk => by rw [e6, u2_nk _ _ hk, (hfr o (by omega)).2.2.1]
        exact ⟨r1.off (fun a q1 q2 => (hall a (by omega) (by omega)).2.2.1), by rw [fo 10 (by decide)]; exact r2, r3, by rw [f19]; exact r4, by rw [fo 11 (by decide)]; exact r5, by rw [fo 12 (by decide)]; exact r6⟩
      · intro a q1 q2
        have := hall a (by omega) (by omega)
        exact ⟨this.1, this.2.1, by rw [this.2.2.1]; exact hkeep6 a q1 q2, this.2.2.2⟩
    · refine ⟨fun z => absurd rfl z, fun _ => ?_⟩
      have hf : fSt D k c x hid = (-1, D) := by unfold fSt; rw [if_neg (by omega)]
      rw [hf]; exact ⟨rfl, ⟨tx, sa, pa, h⟩, hr, keepA.rf⟩
def fCopy (D : Dt) (t x : Int32) (hid : Bool) : Int32 × Dt := match tOf D t with
  | none => (-2, D)
  | some k => if nmOk x then fSt D k true x hid else (-4, D)
def fRep (D : Dt) (t : Int32) : Int32 × Dt := match tOf D t with
  | none => (-2, D)
  | some k => fSt D k false 0 false
theorem tX5_copy {t x : Int32} {hid : Bool} (h : ClsRep K N I R o sz tx sa pa D) (hr : ClsRun I o res ring cp mt) : MtAI l G yX5_copy cX5_copy 5 (some .int) (d + 3) 2 14 [.ref o, .int t, .int x, .int (b2i hid)] K N I R L sz (AftA K N I R o res ring cp mt (fCopy D t x hid)) := by
  obtain ⟨a1, a2, a3, a4, a5, a6⟩ := id h
  refine sX5_copy (d := d + 2) ⟨a1.1, _, tX5_textNumbered a1 a2 a3, fun v I' hv => ?_⟩
  obtain ⟨rfl, rfl⟩ := hv
  refine ⟨fun q => ?_, fun b hb => ?_⟩
  · have : tOf D t = none := by simpa using q
    unfold fCopy; rw [this]
    exact ⟨rfl, ⟨tx, sa, pa, h⟩, hr, keepA.rf⟩
  · obtain ⟨k, hk, rfl⟩ : ∃ k, tOf D t = some k ∧ tx k = b := by simpa using hb
    obtain ⟨hk1, -⟩ := tOf_spec a2.2.2.2.1 hk
    unfold fCopy; rw [hk]
    refine ⟨_, tX5_isName, fun v I2 hv => ?_⟩
    obtain ⟨rfl, rfl⟩ := hv
    refine ⟨fun q => ⟨_, tX5_addStatement (c := true) (x := x) (fun _ => rfl) h hr hk1, fun v K2 N2 I3 R2 z2 hx => ?_⟩, fun q => ?_⟩
    · rw [b2i_ne0] at q
      simp only [q, if_true]; exact hx
    · rw [b2i_eq0] at q
      simp only [q]
      exact ⟨rfl, ⟨tx, sa, pa, h⟩, hr, keepA.rf⟩
theorem tX5_replace {t : Int32} (h : ClsRep K N I R o sz tx sa pa D) (hr : ClsRun I o res ring cp mt) : MtAI l G yX5_replace cX5_replace 3 (some .int) (d + 3) 2 14 [.ref o, .int t] K N I R L sz (AftA K N I R o res ring cp mt (fRep D t)) := by
  obtain ⟨a1, a2, a3, a4, a5, a6⟩ := id h
  refine sX5_replace (d := d + 2) ⟨a1.1, _, tX5_textNumbered a1 a2 a3, fun v I' hv => ?_⟩
  obtain ⟨rfl, rfl⟩ := hv
  refine ⟨fun q => ?_, fun b hb => ?_⟩
  · have : tOf D t = none := by simpa using q
    unfold fRep; rw [this]
    exact ⟨rfl, ⟨tx, sa, pa, h⟩, hr, keepA.rf⟩
  · obtain ⟨k, hk, rfl⟩ : ∃ k, tOf D t = some k ∧ tx k = b := by simpa using hb
    obtain ⟨hk1, -⟩ := tOf_spec a2.2.2.2.1 hk
    unfold fRep; rw [hk]
    exact ⟨_, tX5_addStatement (c := false) (hid := false) (x := 0) (y := -1) (fun z => absurd z (by decide)) h hr hk1, fun v K2 N2 I3 R2 z2 hx => hx⟩
end STM
