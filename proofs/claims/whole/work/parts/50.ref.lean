/-! how the reference holds the data -/
def phS (D : Dt) (s : Nat) : List Nat := (D.2.2.1[s]?.map (fun st => st.2.2.2)).getD []
def toS (D : Dt) (p : Nat) : List Int32 := (D.2.2.2[p]?.map (fun ph => ph.2.2)).getD []
def RefC (I : TI) (q : Nat) (D : Dt) : Prop := I q 1 = nI D.1.length ∧ I q 2 = nI D.2.2.1.length ∧ I q 3 = nI D.2.2.2.length ∧ D.1.length ≤ 12 ∧ D.2.2.1.length ≤ 60 ∧ D.2.2.2.length ≤ 100
def RefT (I : TI) (q : Nat) (D : Dt) : Prop := ∀ t, t ≤ 12 → I (q + 2) t = nI (D.2.1 t).length ∧ (D.2.1 t).length ≤ 200 ∧ ListAt (fun j => I (q + 3) (200 * t + j)) (D.2.1 t)
def RefS (I : TI) (q : Nat) (D : Dt) : Prop := (∀ (s : Nat) (st : Stt), D.2.2.1[s]? = some st → I (q + 4) (s + 1) = st.2.1 ∧ I (q + 7) (s + 1) = b2i st.1 ∧ I (q + 8) (s + 1) = b2i st.2.2.1) ∧ (∀ s, s < 60 → I (q + 5) (s + 1) = nI (phS D s).length ∧ (phS D s).length ≤ 8 ∧ ∀ (j p : Nat), (phS D s)[j]? = some p → I (q + 6) (8 * s + j) = nI (p + 1)) ∧ I (q + 5) 0 = 0
def RefP (I : TI) (q : Nat) (D : Dt) : Prop := (∀ (p : Nat) (ph : Phr), D.2.2.2[p]? = some ph → I (q + 9) (p + 1) = ph.1 ∧ I (q + 10) (p + 1) = nI ph.2.1.length ∧ ph.2.1.length ≤ 10 ∧ ListAt (fun j => I (q + 12) (10 * p + j)) ph.2.1) ∧ ∀ p, p < 100 → I (q + 11) (p + 1) = nI (toS D p).length ∧ (toS D p).length ≤ 10 ∧ ListAt (fun j => I (q + 13) (10 * p + j)) (toS D p)
def RefD (I : TI) (q : Nat) (D : Dt) : Prop := RefC I q D ∧ ListAt (fun j => I (q + 1) (j + 1)) D.1 ∧ RefT I q D ∧ RefS I q D ∧ RefP I q D
def rfAt (I : TI) (q k : Nat) (x : It) : Prop := I (q + 14) k = x.1 ∧ I (q + 15) k = x.2.1 ∧ I (q + 16) k = x.2.2.1 ∧ I (q + 17) k = x.2.2.2.1 ∧ I (q + 19) k = x.2.2.2.2.1 ∧ I (q + 18) k = x.2.2.2.2.2
def RefRun (I : TI) (q : Nat) (res : List It) (ring : List Int32) (cp mt : Int32) : Prop := I q 32 = nI res.length ∧ res.length ≤ 300 ∧ (∀ (j : Nat) (x : It), res[j]? = some x → rfAt I q j x) ∧ I q 31 = nI ring.length ∧ ring.length ≤ 13 ∧ ListAt (I (q + 24)) ring ∧ I q 29 = cp ∧ I q 30 = mt
/-- nothing but the reference's cells changes -/
def offRef (I I' : TI) (q : Nat) : Prop := ∀ a, (a < q ∨ q + 25 ≤ a) → I' a = I a
theorem offRef.tr {I I' I'' : TI} {q : Nat} (h : offRef I I' q) (h2 : offRef I' I'' q) : offRef I I'' q := fun a ha => (h2 a ha).trans (h a ha)
theorem offRef.u {I : TI} {q a k : Nat} {v : Int32} (h : q ≤ a ∧ a < q + 25) : offRef I (u2 I a k v) q := fun b hb => u2_ne _ _ (by omega)
theorem RefC.mv {I I' : TI} {q : Nat} {D : Dt} (h : RefC I q D) (h1 : I' q 1 = I q 1) (h2 : I' q 2 = I q 2) (h3 : I' q 3 = I q 3) : RefC I' q D := by
  unfold RefC; rw [h1, h2, h3]; exact h
theorem RefT.mv {I I' : TI} {q : Nat} {D : Dt} (h : RefT I q D) (h2 : I' (q + 2) = I (q + 2)) (h3 : I' (q + 3) = I (q + 3)) : RefT I' q D := by
  unfold RefT; rw [h2, h3]; exact h
theorem RefS.mv {I I' : TI} {q : Nat} {D : Dt} (h : RefS I q D) (hc : ∀ c, 4 ≤ c → c ≤ 8 → I' (q + c) = I (q + c)) : RefS I' q D := by
  unfold RefS; rw [hc 4 (by omega) (by omega), hc 5 (by omega) (by omega), hc 6 (by omega) (by omega), hc 7 (by omega) (by omega), hc 8 (by omega) (by omega)]; exact h
theorem RefP.mv {I I' : TI} {q : Nat} {D : Dt} (h : RefP I q D) (hc : ∀ c, 9 ≤ c → c ≤ 13 → I' (q + c) = I (q + c)) : RefP I' q D := by
  unfold RefP; rw [hc 9 (by omega) (by omega), hc 10 (by omega) (by omega), hc 11 (by omega) (by omega), hc 12 (by omega) (by omega), hc 13 (by omega) (by omega)]; exact h
theorem RefD.mv {I I' : TI} {q : Nat} {D : Dt} (h : RefD I q D) (h1 : I' q 1 = I q 1) (h2 : I' q 2 = I q 2) (h3 : I' q 3 = I q 3) (hc : ∀ c, 1 ≤ c → c ≤ 13 → I' (q + c) = I (q + c)) : RefD I' q D := by
  obtain ⟨a1, a2, a3, a4, a5⟩ := h
  exact ⟨a1.mv h1 h2 h3, by rw [hc 1 (by omega) (by omega)]; exact a2, a3.mv (hc 2 (by omega) (by omega)) (hc 3 (by omega) (by omega)), a4.mv (fun c q1 q2 => hc c (by omega) (by omega)), a5.mv (fun c q1 q2 => hc c (by omega) (by omega))⟩
theorem RefRun.mv {I I' : TI} {q : Nat} {res : List It} {ring : List Int32} {cp mt : Int32} (h : RefRun I q res ring cp mt) (h0 : ∀ k, 29 ≤ k → k ≤ 32 → I' q k = I q k) (hc : ∀ c, 14 ≤ c → c ≤ 24 → I' (q + c) = I (q + c)) : RefRun I' q res ring cp mt := by
  unfold RefRun rfAt
  rw [h0 29 (by omega) (by omega), h0 30 (by omega) (by omega), h0 31 (by omega) (by omega), h0 32 (by omega) (by omega), hc 14 (by omega) (by omega), hc 15 (by omega) (by omega), hc 16 (by omega) (by omega), hc 17 (by omega) (by omega), hc 18 (by omega) (by omega), hc 19 (by omega) (by omega), hc 24 (by omega) (by omega)]
  exact h
/-- thrown is set: the data and the run's end stay -/
theorem RefD.t0 {I : TI} {q : Nat} {D : Dt} {v : Int32} (h : RefD I q D) : RefD (u2 I q 0 v) q D := h.mv (u2_nk _ _ (by decide)) (u2_nk _ _ (by decide)) (u2_nk _ _ (by decide)) (fun c q1 q2 => u2_ne _ _ (by omega))
theorem RefRun.t0 {I : TI} {q : Nat} {res : List It} {ring : List Int32} {cp mt v : Int32} (h : RefRun I q res ring cp mt) : RefRun (u2 I q 0 v) q res ring cp mt := h.mv (fun k q1 q2 => u2_nk _ _ (by omega)) (fun c q1 q2 => u2_ne _ _ (by omega))
/-- what holds behind a call of the reference -/
def AftR (q : Nat) (res : List It) (ring : List Int32) (cp mt : Int32) (I : TI) (x : Int32 × Dt) (v : Int32) (I' : TI) : Prop := v = x.1 ∧ RefD I' q x.2 ∧ RefRun I' q res ring cp mt ∧ offRef I I' q
theorem nI_200 (t n : Nat) : (200 : Int32) * nI t + nI n = nI (200 * t + n) := by rw [show (200 : Int32) = nI 200 from rfl, pk_mul, nI_add]
theorem nI_10 (p n : Nat) : (10 : Int32) * nI (p + 1) - 10 + nI n = nI (10 * p + n) := by rw [show (10 : Int32) = nI 10 from rfl, pk_mul, pk_sub (by omega), nI_add, show 10 * (p + 1) - 10 = 10 * p by omega]
theorem nI_10' (p : Nat) : (10 : Int32) * nI (p + 1) - 10 = nI (10 * p) := by rw [show (10 : Int32) = nI 10 from rfl, pk_mul, pk_sub (by omega), show 10 * (p + 1) - 10 = 10 * p by omega]
theorem nI_8 (s n : Nat) : (8 : Int32) * nI (s + 1) - 8 + nI n = nI (8 * s + n) := by rw [show (8 : Int32) = nI 8 from rfl, pk_mul, pk_sub (by omega), nI_add, show 8 * (s + 1) - 8 = 8 * s by omega]
section REF
variable {l : Launch} {G : Gx} {d : Nat} {K N : TK} {I : TI} {R : TR} {L : TL} {sz q : Nat} {D : Dt} {res : List It} {ring : List Int32} {cp mt : Int32}
theorem tX6_thrown (hF : RefF K N R q) : MtI l G yX6_thrown cX6_thrown 1 (some .int) d [.ref q] K N I R L sz (fun v I' => v = I q 0 ∧ I' = I) := sX6_thrown ⟨hF.1, rfl, rfl⟩
theorem tX6_isText {x : Int32} (hF : RefF K N R q) (hC : RefC I q D) : MtI l G yX6_isText cX6_isText 2 (some .boolean) d [.ref q, .int x] K N I R L sz (fun v I' => v = b2i (tOf D x).isSome ∧ I' = I) := by
  have h12 := hC.2.2.2.1
  refine sX6_isText ⟨fun z => ⟨?_, rfl⟩, fun z => ⟨hF.1, fun z2 => ⟨?_, rfl⟩, fun z2 => ⟨?_, rfl⟩⟩⟩
  · rw [b2i_f (by simp [tOf, hasB, z])]
  · rw [hC.1] at z2
    obtain ⟨j, hj, rfl⟩ := nI_of z
    rw [nI_ltI (by omega) hj] at z2
    rw [b2i_f]
    have : hasB (D.1.length + 1) (nI j) = false := by rw [hasB_nI hj (by omega)]; simp; omega
    simp [tOf, this]
  · rw [hC.1] at z2
    obtain ⟨j, hj, rfl⟩ := nI_of z
    rw [nI_ltI (by omega) hj] at z2
    rw [b2i_t]
    have : hasB (D.1.length + 1) (nI j) = true := by rw [hasB_nI hj (by omega)]; simp; omega
    simp [tOf, this]
/-- what adding an entry does -/
def radd (I : TI) (q t n : Nat) (e : Int32) : TI := u2 (u2 I (q + 3) (200 * t + n) e) (q + 2) t (nI (n + 1))
theorem tX6_add {t : Nat} {e : Int32} (hF : RefF K N R q) (hT : RefT I q D) (ht : t ≤ 12) (hn : (D.2.1 t).length < 200) : MtI l G yX6_add cX6_add 3 (some .int) d [.ref q, .int (nI t), .int e] K N I R L sz (fun v I' => v = nI ((D.2.1 t).length + 1) ∧ I' = radd I q t (D.2.1 t).length e) := by
  have f3 := hF.2 3 (by decide) (by decide)
  have f2 := hF.2 2 (by decide) (by decide)
  obtain ⟨h1, h2, h3⟩ := hT t ht
  have hct : (nI t).toNatClampNeg = t := nI_clamp (by omega)
  refine sX6_add ⟨hF.1, q + 3, f3.1, q + 2, f2.1, f2.2.1, by rw [f2.2.2]; exact vp_in_nI (show t < 13 by omega) (by decide), f3.2.1, ?_⟩
  rw [hct, h1, nI_200, nI_clamp (by omega), f3.2.2]
  refine ⟨vp_in_nI (show 200 * t + (D.2.1 t).length < 2600 by omega) (by decide), fun I10 e10 I11 e11 => ?_⟩
  have hv : I10 (q + 2) t = nI (D.2.1 t).length := by rw [e10, u2_ne _ _ (by omega)]; exact h1
  rw [hv, nI_1] at e11
  exact ⟨by rw [e11, u2_self], by rw [e11, e10]; rfl⟩
theorem radd_far {I : TI} {q t n a : Nat} {e : Int32} (h2 : a ≠ q + 2) (h3 : a ≠ q + 3) : radd I q t n e a = I a := by
  unfold radd; rw [u2_ne _ _ h2, u2_ne _ _ h3]
theorem radd_T {I : TI} {q t : Nat} {D : Dt} {e : Int32} (hT : RefT I q D) (ht : t ≤ 12) (hn : (D.2.1 t).length < 200) : RefT (radd I q t (D.2.1 t).length e) q (addT D t e) := by
  intro t' ht'
  obtain ⟨h1, h2, h3⟩ := hT t' ht'
  show _ ∧ _ ∧ ListAt _ (va_up D.2.1 t (D.2.1 t ++ [e]) t')
  show radd I q t (D.2.1 t).length e (q + 2) t' = nI (va_up D.2.1 t (D.2.1 t ++ [e]) t').length ∧ (va_up D.2.1 t (D.2.1 t ++ [e]) t').length ≤ 200 ∧ _
  have e3 : radd I q t (D.2.1 t).length e (q + 3) = va_up (I (q + 3)) (200 * t + (D.2.1 t).length) e := by unfold radd; rw [u2_ne _ _ (by omega), u2_at]
  by_cases hq : t' = t
  · subst hq
    rw [va_up_self]
    refine ⟨by unfold radd; rw [u2_self]; simp, by simp; omega, fun j x hj => ?_⟩
    show radd I q t' _ e (q + 3) (200 * t' + j) = x
    rw [e3]
    by_cases hjl : j < (D.2.1 t').length
    · rw [List.getElem?_append_left hjl] at hj
      rw [va_up_ne _ _ (by omega)]; exact h3 j x hj
    · rw [List.getElem?_append_right (by omega)] at hj
      have hj0 : j = (D.2.1 t').length := by
        have := (List.getElem?_eq_some_iff.mp hj).1
        simp at this; omega
      subst hj0
      simp at hj
      rw [va_up_self]; exact hj
  · rw [va_up_ne _ _ hq]
    refine ⟨by unfold radd; rw [u2_nk _ _ hq, u2_ne _ _ (by omega)]; exact h1, h2, fun j x hj => ?_⟩
    show radd I q t _ e (q + 3) (200 * t' + j) = x
    have hjl := (List.getElem?_eq_some_iff.mp hj).1
    rw [e3, va_up_ne _ _ (by omega)]; exact h3 j x hj
theorem radd_D {I : TI} {q t : Nat} {D : Dt} {e : Int32} (h : RefD I q D) (ht : t ≤ 12) (hn : (D.2.1 t).length < 200) : RefD (radd I q t (D.2.1 t).length e) q (addT D t e) := by
  obtain ⟨a1, a2, a3, a4, a5⟩ := h
  have hq : radd I q t (D.2.1 t).length e q = I q := radd_far (by omega) (by omega)
  refine ⟨a1.mv (by rw [hq]) (by rw [hq]) (by rw [hq]), ?_, radd_T a3 ht hn, a4.mv (fun c q1 q2 => radd_far (by omega) (by omega)), a5.mv (fun c q1 q2 => radd_far (by omega) (by omega))⟩
  rw [radd_far (by omega) (by omega)]; exact a2
theorem radd_R {I : TI} {q t n : Nat} {e : Int32} (h : RefRun I q res ring cp mt) : RefRun (radd I q t n e) q res ring cp mt := h.mv (fun k q1 q2 => by rw [radd_far (by omega) (by omega)]) (fun c q1 q2 => radd_far (by omega) (by omega))
theorem radd_o {I : TI} {q t n : Nat} {e : Int32} : offRef I (radd I q t n e) q := fun a ha => radd_far (by omega) (by omega)
theorem tX6_word {t w : Int32} (hF : RefF K N R q) (h : RefD I q D) (hr : RefRun I q res ring cp mt) : MtI l G yX6_word cX6_word 3 (some .int) (d + 1) [.ref q, .int t, .int w] K N I R L sz (AftR q res ring cp mt I (fWord D t w)) := by
  refine sX6_word ⟨hF.1, fun I2 e2 => ?_⟩
  have h2 : RefD I2 q D := by rw [e2]; exact h.t0
  have hr2 : RefRun I2 q res ring cp mt := by rw [e2]; exact hr.t0
  have ho2 : offRef I I2 q := by rw [e2]; exact offRef.u (by omega)
  refine ⟨_, tX6_isText hF h2.1, fun v I3 hv => ?_⟩
  obtain ⟨rfl, rfl⟩ := hv
  refine ⟨fun z => ?_, fun z => ?_⟩
  · rw [b2i_ne0] at z
    obtain ⟨k, hk⟩ := Option.isSome_iff_exists.mp z
    obtain ⟨hk1, rfl⟩ := tOf_spec h2.1.2.2.2.1 hk
    have hk12 : k ≤ 12 := by have := h2.1.2.2.2.1; omega
    have hct : (nI k).toNatClampNeg = k := nI_clamp (by omega)
    obtain ⟨t1, t2, t3⟩ := h2.2.2.1 k hk12
    have f2 := hF.2 2 (by decide) (by decide)
    have hin : vp_in (nI k) (N (q + 2)) := by rw [f2.2.2]; exact vp_in_nI (show k < 13 by omega) (by decide)
    have h200 : I3 (q + 2) k = 200 ↔ (D.2.1 k).length = 200 := by rw [t1]; exact nI_eq (by omega) (b := 200) (by decide)
    have good : plOk w = true → ((¬ I3 (q + 2) k = 200 → ∃ φ : Int32 → TI → Prop, MtI l G yX6_add cX6_add 3 (some .int) d [.ref q, .int (nI k), .int w] K N I3 R L sz φ ∧ ∀ (r : Int32) (I' : TI), φ r I' → AftR q res ring cp mt I (fWord D (nI k) w) r I') ∧ (I3 (q + 2) k = 200 → AftR q res ring cp mt I (fWord D (nI k) w) (-1) I3)) := fun hp => by
      have hf : fWord D (nI k) w = if (D.2.1 k).length < 200 then (nI ((D.2.1 k).length + 1), addT D k w) else (-1, D) := by unfold fWord; rw [hk]; simp only [hp, if_true]
      rw [hf]
      refine ⟨fun z => ?_, fun z => ?_⟩
      · rw [h200] at z
        have hn : (D.2.1 k).length < 200 := by omega
        rw [if_pos hn]
        refine ⟨_, tX6_add hF h2.2.2.1 hk12 hn, fun v I' hv => ?_⟩
        obtain ⟨rfl, rfl⟩ := hv
        exact ⟨rfl, radd_D h2 hk12 hn, radd_R hr2, ho2.tr radd_o⟩
      · rw [h200] at z
        rw [if_neg (by omega)]
        exact ⟨rfl, h2, hr2, ho2⟩
    rw [hct]
    refine ⟨fun w0 => ⟨q + 2, f2.1, f2.2.1, hin, good (by simp [plOk, w0])⟩, fun w0 => ⟨fun w1 => ⟨q + 2, f2.1, f2.2.1, hin, good (by simp [plOk, w1])⟩, fun w1 => ⟨_, tX6_isWord, fun v I4 hv => ?_⟩⟩⟩
    obtain ⟨hv, hI⟩ := hv
    rw [hv, hI]
    refine ⟨fun w2 => ⟨q + 2, f2.1, f2.2.1, hin, good (by rw [b2i_ne0] at w2; simp [plOk, w2])⟩, fun w2 => ?_⟩
    rw [b2i_eq0] at w2
    have hf : fWord D (nI k) w = (-4, D) := by unfold fWord; rw [hk]; simp [plOk, w0, w1, w2]
    rw [hf]
    exact ⟨rfl, h2, hr2, ho2⟩
  · rw [b2i_eq0] at z
    have hz : tOf D t = none := by simpa using z
    have hf : fWord D t w = (-2, D) := by unfold fWord; rw [hz]
    rw [hf]
    exact ⟨rfl, h2, hr2, ho2⟩
theorem tX6_off {t : Int32} (hF : RefF K N R q) (h : RefD I q D) (hr : RefRun I q res ring cp mt) : MtI l G yX6_off cX6_off 2 (some .int) (d + 1) [.ref q, .int t] K N I R L sz (AftR q res ring cp mt I (fOff D t)) := by
  refine sX6_off ⟨hF.1, fun I2 e2 => ?_⟩
  have h2 : RefD I2 q D := by rw [e2]; exact h.t0
  have hr2 : RefRun I2 q res ring cp mt := by rw [e2]; exact hr.t0
  have ho2 : offRef I I2 q := by rw [e2]; exact offRef.u (by omega)
  refine ⟨_, tX6_isText hF h2.1, fun v I3 hv => ?_⟩
  obtain ⟨rfl, rfl⟩ := hv
  refine ⟨fun z => ?_, fun z => ?_⟩
  · rw [b2i_ne0] at z
    obtain ⟨k, hk⟩ := Option.isSome_iff_exists.mp z
    obtain ⟨hk1, rfl⟩ := tOf_spec h2.1.2.2.2.1 hk
    have hk12 : k ≤ 12 := by have := h2.1.2.2.2.1; omega
    have hct : (nI k).toNatClampNeg = k := nI_clamp (by omega)
    obtain ⟨t1, t2, t3⟩ := h2.2.2.1 k hk12
    have f2 := hF.2 2 (by decide) (by decide)
    have h200 : I3 (q + 2) k = 200 ↔ (D.2.1 k).length = 200 := by rw [t1]; exact nI_eq (by omega) (b := 200) (by decide)
    have hf : fOff D (nI k) = if (D.2.1 k).length < 200 then (nI ((D.2.1 k).length + 1), addT D k (-3000)) else (-1, D) := by unfold fOff; rw [hk]
    rw [hf, hct]
    refine ⟨q + 2, f2.1, f2.2.1, by rw [f2.2.2]; exact vp_in_nI (show k < 13 by omega) (by decide), fun z => ?_, fun z => ?_⟩
    · rw [h200] at z
      have hn : (D.2.1 k).length < 200 := by omega
      rw [if_pos hn]
      refine ⟨_, tX6_add hF h2.2.2.1 hk12 hn, fun v I' hv => ?_⟩
      obtain ⟨rfl, rfl⟩ := hv
      exact ⟨rfl, radd_D h2 hk12 hn, radd_R hr2, ho2.tr radd_o⟩
    · rw [h200] at z
      rw [if_neg (by omega)]
      exact ⟨rfl, h2, hr2, ho2⟩
  · rw [b2i_eq0] at z
    have hz : tOf D t = none := by simpa using z
    have hf : fOff D t = (-2, D) := by unfold fOff; rw [hz]
    rw [hf]
    exact ⟨rfl, h2, hr2, ho2⟩
theorem tX6_library {x : Int32} (hF : RefF K N R q) (h : RefD I q D) (hr : RefRun I q res ring cp mt) : MtI l G yX6_library cX6_library 2 (some .int) d [.ref q, .int x] K N I R L sz (AftR q res ring cp mt I (fLib D x)) := by
  refine sX6_library ⟨hF.1, fun I2 e2 => ?_⟩
  have h2 : RefD I2 q D := by rw [e2]; exact h.t0
  have hr2 : RefRun I2 q res ring cp mt := by rw [e2]; exact hr.t0
  have ho2 : offRef I I2 q := by rw [e2]; exact offRef.u (by omega)
  obtain ⟨a1, a2, a3, a4, a5⟩ := id h2
  have h12 := a1.2.2.2.1
  have f1 := hF.2 1 (by decide) (by decide)
  have h99 : ∀ z : ¬ x < 0, (x ≤ 99 ↔ ¬ 99 < x) := fun z => by
    rw [Int32.le_iff_toInt_le, Int32.lt_iff_toInt_lt]; omega
  have he12 : I2 q 1 = 12 ↔ D.1.length = 12 := by rw [a1.1]; exact nI_eq (by omega) (b := 12) (by decide)
  refine ⟨fun z => ?_, fun z => ⟨fun z2 => ⟨fun z3 I3 e3 => ?_, fun z3 => ?_⟩, fun z2 => ?_⟩⟩
  · have hf : fLib D x = (-4, D) := by unfold fLib; rw [if_neg (by simp [nmOk, z])]
    rw [hf]; exact ⟨rfl, h2, hr2, ho2⟩
  · rw [h99 z] at z2
    rw [he12] at z3
    have hf : fLib D x = (nI (D.1.length + 1), (D.1 ++ [x], D.2)) := by unfold fLib; rw [if_pos (by simp [nmOk, z, z2]), if_pos (by omega)]
    rw [hf]
    rw [a1.1, nI_1] at e3
    have hI3q : I3 q 1 = nI (D.1.length + 1) := by rw [e3, u2_self]
    refine ⟨q + 1, f1.1, f1.2.1, by rw [hI3q, f1.2.2]; exact vp_in_nI (show D.1.length + 1 < 13 by omega) (by decide), fun I8 e8 => ?_⟩
    rw [hI3q, nI_clamp (by omega)] at e8
    have hq8 : I8 q = I3 q := by rw [e8, u2_ne _ _ (by omega)]
    have hfar : ∀ a, a ≠ q → a ≠ q + 1 → I8 a = I2 a := fun a y1 y2 => by rw [e8, u2_ne _ _ y2, e3, u2_ne _ _ y1]
    refine ⟨by rw [hq8]; exact hI3q, ⟨⟨?_, ?_, ?_, by simp; omega, a1.2.2.2.2⟩, ?_, a3.mv (hfar _ (by omega) (by omega)) (hfar _ (by omega) (by omega)), a4.mv (fun c y1 y2 => hfar _ (by omega) (by omega)), a5.mv (fun c y1 y2 => hfar _ (by omega) (by omega))⟩, hr2.mv (fun k y1 y2 => ?_) (fun c y1 y2 => hfar _ (by omega) (by omega)), ho2.tr (fun a ha => hfar a (by omega) (by omega))⟩
    · rw [hq8, hI3q]; simp
    · rw [hq8, e3, u2_nk _ _ (by decide)]; exact a1.2.1
    · rw [hq8, e3, u2_nk _ _ (by decide)]; exact a1.2.2.1
    · have e1 : (fun j => I8 (q + 1) (j + 1)) = va_up (fun j => I2 (q + 1) (j + 1)) D.1.length x := by
        funext j
        rw [e8, u2_at, e3, u2_ne _ _ (by omega)]
        unfold va_up
        by_cases hj : j = D.1.length
        · simp [hj]
        · rw [if_neg (by omega), if_neg hj]
      rw [e1]
      exact a2.push
    · rw [hq8, e3, u2_nk _ _ (by omega)]
  · rw [h99 z] at z2
    rw [he12] at z3
    have hf : fLib D x = (-1, D) := by unfold fLib; rw [if_pos (by simp [nmOk, z, z2]), if_neg (by omega)]
    rw [hf]; exact ⟨rfl, h2, hr2, ho2⟩
  · rw [h99 z] at z2
    have hf : fLib D x = (-4, D) := by unfold fLib; rw [if_neg (by intro y; simp [nmOk] at y; exact z2 (by simpa using y.2))]
    rw [hf]; exact ⟨rfl, h2, hr2, ho2⟩
end REF
