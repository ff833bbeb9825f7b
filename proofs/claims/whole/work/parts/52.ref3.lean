/-! the reference: phrase, from, to -/
section REF3
variable {l : Launch} {G : Gx} {d : Nat} {K N : TK} {I : TI} {R : TR} {L : TL} {sz q : Nat} {D : Dt} {res : List It} {ring : List Int32} {cp mt : Int32}
theorem nOf_cases {x y : Int32} {n : Nat} (hn : n < 2 ^ 30) (hy : y = nI n) (z : ¬ x < 1) : (x ≤ y → ∃ j, j < n ∧ x = nI (j + 1) ∧ nOf n x = some j) ∧ (¬ x ≤ y → nOf n x = none) := by
  subst hy
  refine ⟨fun z2 => ?_, fun z2 => ?_⟩
  · have z3 : ¬ nI n < x := by
      intro w
      rw [Int32.le_iff_toInt_le] at z2
      rw [Int32.lt_iff_toInt_lt] at w
      omega
    obtain ⟨j, h1, h2, -, h4⟩ := num_aux hn z z3
    exact ⟨j, h1, h2, h4⟩
  · unfold nOf
    rw [if_pos (Or.inr ?_)]
    rw [Int32.le_iff_toInt_le] at z2
    rw [Int32.lt_iff_toInt_lt]
    omega
theorem phS_ph {D : Dt} {j s : Nat} {st : Stt} {k w : Int32} (hst : D.2.2.1[j]? = some st) : phS (addPh D j st k w) s = if s = j then st.2.2.2 ++ [D.2.2.2.length] else phS D s := by
  unfold phS
  show (((D.2.2.1.set j _)[s]?).map (fun st => st.2.2.2)).getD [] = _
  have hj : j < D.2.2.1.length := (List.getElem?_eq_some_iff.mp hst).1
  by_cases h : s = j
  · subst h; rw [List.getElem?_set_self hj, if_pos rfl]; rfl
  · rw [List.getElem?_set_ne (fun z => h z.symm), if_neg h]
theorem toS_ph {D : Dt} {j p : Nat} {st : Stt} {k w : Int32} : toS (addPh D j st k w) p = toS D p := by
  unfold toS
  show ((D.2.2.2 ++ [((k, [w], []) : Phr)])[p]?.map (fun ph => ph.2.2)).getD [] = _
  by_cases h : p < D.2.2.2.length
  · rw [List.getElem?_append_left h]
  · have e1 : D.2.2.2[p]? = none := List.getElem?_eq_none (by omega)
    rw [List.getElem?_append_right (by omega), e1]
    by_cases h0 : p = D.2.2.2.length
    · subst h0; simp
    · have e2 : [((k, [w], []) : Phr)][p - D.2.2.2.length]? = none := List.getElem?_eq_none (by simp only [List.length_singleton]; omega)
      rw [e2]
theorem tX6_phrase {s k w : Int32} (hF : RefF K N R q) (h : RefD I q D) (hr : RefRun I q res ring cp mt) : MtI l G yX6_phrase cX6_phrase 4 (some .int) (d + 1) [.ref q, .int s, .int k, .int w] K N I R L sz (AftR q res ring cp mt I (fPhr D s k w)) := by
  refine sX6_phrase ⟨hF.1, fun I2 e2 => ?_⟩
  have h2 : RefD I2 q D := by rw [e2]; exact h.t0
  have hr2 : RefRun I2 q res ring cp mt := by rw [e2]; exact hr.t0
  have ho2 : offRef I I2 q := by rw [e2]; exact offRef.u (by omega)
  obtain ⟨a1, a2, a3, a4, a5⟩ := id h2
  have h60 := a1.2.2.2.2.1
  have h100 := a1.2.2.2.2.2
  refine ⟨fun z => ?_, fun z => ⟨fun z2 => ?_, fun z2 => ?_⟩⟩
  · have hf : fPhr D s k w = (-2, D) := by unfold fPhr; rw [show nOf D.2.2.1.length s = none from by simp [nOf, z]]
    rw [hf]; exact ⟨rfl, h2, hr2, ho2⟩
  · obtain ⟨j, hj1, rfl, hj⟩ := (nOf_cases (by omega) a1.2.1 z).1 z2
    obtain ⟨st, hst⟩ : ∃ st, D.2.2.1[j]? = some st := ⟨_, List.getElem?_eq_getElem hj1⟩
    have hph : phS D j = st.2.2.2 := by unfold phS; rw [hst]; rfl
    have hf0 : fPhr D (nI (j + 1)) k w = if kdOk k && wd w then (if D.2.2.2.length < 100 ∧ st.2.2.2.length < 8 then (nI (D.2.2.2.length + 1), addPh D j st k w) else (-1, D)) else (-4, D) := by unfold fPhr; rw [hj]; simp only [hst]
    rw [hf0]
    have hcj : (nI (j + 1)).toNatClampNeg = j + 1 := nI_clamp (by omega)
    refine ⟨fun y => ?_, fun y => ⟨fun y2 => ?_, fun y2 => ⟨_, tX6_isWord, fun v I3 hv => ?_⟩⟩⟩
    · rw [if_neg (by simp [kdOk, y])]; exact ⟨rfl, h2, hr2, ho2⟩
    · rw [if_neg (by simp [kdOk, y2])]; exact ⟨rfl, h2, hr2, ho2⟩
    · obtain ⟨hv, hI⟩ := hv
      rw [hv, hI]
      refine ⟨fun y3 => ?_, fun y3 => ?_⟩
      · rw [b2i_ne0] at y3
        rw [if_pos (by simp [kdOk, y, y2, y3])]
        obtain ⟨s1, s2, s3⟩ := a4.2.1 j (by omega)
        rw [hph] at s1 s2 s3
        have f5 := hF.2 5 (by decide) (by decide)
        have f6 := hF.2 6 (by decide) (by decide)
        have f9 := hF.2 9 (by decide) (by decide)
        have f10 := hF.2 10 (by decide) (by decide)
        have f12 := hF.2 12 (by decide) (by decide)
        have he100 : I2 q 3 = 100 ↔ D.2.2.2.length = 100 := by rw [a1.2.2.1]; exact nI_eq (by omega) (b := 100) (by decide)
        have he8 : I2 (q + 5) (j + 1) = 8 ↔ st.2.2.2.length = 8 := by rw [s1]; exact nI_eq (by omega) (b := 8) (by decide)
        refine ⟨fun y4 => ?_, fun y4 => ⟨q + 5, f5.1, f5.2.1, by rw [f5.2.2]; exact vp_in_nI (show j + 1 < 61 by omega) (by decide), ?_⟩⟩
        · rw [he100] at y4
          rw [if_neg (by omega)]; exact ⟨rfl, h2, hr2, ho2⟩
        · rw [he100] at y4
          rw [hcj]
          refine ⟨fun y5 I16 e16 => ?_, fun y5 => ?_⟩
          · rw [he8] at y5
            rw [if_pos (by omega)]
            have hnp : D.2.2.2.length < 100 := by omega
            have hn8 : st.2.2.2.length < 8 := by omega
            rw [a1.2.2.1, nI_1] at e16
            have i16 : I16 q 3 = nI (D.2.2.2.length + 1) := by rw [e16, u2_self]
            refine ⟨q + 9, f9.1, f9.2.1, by rw [i16, f9.2.2]; exact vp_in_nI (show D.2.2.2.length + 1 < 101 by omega) (by decide), fun I21 e21 => ?_⟩
            rw [i16, nI_clamp (by omega)] at e21
            have i21 : I21 q 3 = nI (D.2.2.2.length + 1) := by rw [e21, u2_ne _ _ (by omega)]; exact i16
            rw [i21, nI_10', nI_clamp (by omega)]
            refine ⟨q + 12, f12.1, f12.2.1, by rw [f12.2.2]; exact vp_in_nI (show 10 * D.2.2.2.length < 1010 by omega) (by decide), fun I26 e26 => ?_⟩
            have i26 : I26 q 3 = nI (D.2.2.2.length + 1) := by rw [e26, u2_ne _ _ (by omega)]; exact i21
            refine ⟨q + 10, f10.1, f10.2.1, by rw [i26, f10.2.2]; exact vp_in_nI (show D.2.2.2.length + 1 < 101 by omega) (by decide), fun I31 e31 => ?_⟩
            rw [i26, nI_clamp (by omega)] at e31
            have i31 : I31 q 3 = nI (D.2.2.2.length + 1) := by rw [e31, u2_ne _ _ (by omega)]; exact i26
            have p31 : I31 (q + 5) (j + 1) = nI st.2.2.2.length := by rw [e31, u2_ne _ _ (by omega), e26, u2_ne _ _ (by omega), e21, u2_ne _ _ (by omega), e16, u2_ne _ _ (by omega)]; exact s1
            rw [p31, nI_8, nI_clamp (by omega), i31]
            refine ⟨q + 6, f6.1, f6.2.1, by rw [f6.2.2]; exact vp_in_nI (show 8 * j + st.2.2.2.length < 488 by omega) (by decide), fun I36 e36 I37 e37 => ?_⟩
            have p36 : I36 (q + 5) (j + 1) = nI st.2.2.2.length := by rw [e36, u2_ne _ _ (by omega)]; exact p31
            rw [p36, nI_1] at e37
            have hfar : ∀ a, a ≠ q → a ≠ q + 5 → a ≠ q + 6 → a ≠ q + 9 → a ≠ q + 10 → a ≠ q + 12 → I37 a = I2 a := fun a b1 b2 b3 b4 b5 b6 => by rw [e37, u2_ne _ _ b2, e36, u2_ne _ _ b3, e31, u2_ne _ _ b5, e26, u2_ne _ _ b6, e21, u2_ne _ _ b4, e16, u2_ne _ _ b1]
            have hq37 : ∀ i, I37 q i = I16 q i := fun i => by rw [e37, u2_ne _ _ (by omega), e36, u2_ne _ _ (by omega), e31, u2_ne _ _ (by omega), e26, u2_ne _ _ (by omega), e21, u2_ne _ _ (by omega)]
            have g5 : I37 (q + 5) = va_up (I2 (q + 5)) (j + 1) (nI (st.2.2.2.length + 1)) := by rw [e37, u2_at, e36, u2_ne _ _ (by omega), e31, u2_ne _ _ (by omega), e26, u2_ne _ _ (by omega), e21, u2_ne _ _ (by omega), e16, u2_ne _ _ (by omega)]
            have g6 : I37 (q + 6) = va_up (I2 (q + 6)) (8 * j + st.2.2.2.length) (nI (D.2.2.2.length + 1)) := by rw [e37, u2_ne _ _ (by omega), e36, u2_at, e31, u2_ne _ _ (by omega), e26, u2_ne _ _ (by omega), e21, u2_ne _ _ (by omega), e16, u2_ne _ _ (by omega)]
            have g9 : I37 (q + 9) = va_up (I2 (q + 9)) (D.2.2.2.length + 1) k := by rw [e37, u2_ne _ _ (by omega), e36, u2_ne _ _ (by omega), e31, u2_ne _ _ (by omega), e26, u2_ne _ _ (by omega), e21, u2_at, e16, u2_ne _ _ (by omega)]
            have g10 : I37 (q + 10) = va_up (I2 (q + 10)) (D.2.2.2.length + 1) 1 := by rw [e37, u2_ne _ _ (by omega), e36, u2_ne _ _ (by omega), e31, u2_at, e26, u2_ne _ _ (by omega), e21, u2_ne _ _ (by omega), e16, u2_ne _ _ (by omega)]
            have g12 : I37 (q + 12) = va_up (I2 (q + 12)) (10 * D.2.2.2.length) w := by rw [e37, u2_ne _ _ (by omega), e36, u2_ne _ _ (by omega), e31, u2_ne _ _ (by omega), e26, u2_at, e21, u2_ne _ _ (by omega), e16, u2_ne _ _ (by omega)]
            refine ⟨by rw [hq37]; exact i16, ⟨⟨?_, ?_, ?_, a1.2.2.2.1, ?_, ?_⟩, ?_, ?_, ⟨?_, ?_, ?_⟩, ⟨?_, ?_⟩⟩, ?_, ?_⟩
            · rw [hq37, e16, u2_nk _ _ (by decide)]; exact a1.1
            · rw [hq37, e16, u2_nk _ _ (by decide)]
              show I2 q 2 = nI (D.2.2.1.set j _).length
              rw [List.length_set]; exact a1.2.1
            · rw [hq37, i16]
              show _ = nI (D.2.2.2 ++ [_]).length
              simp
            · show (D.2.2.1.set j _).length ≤ 60
              rw [List.length_set]; exact h60
            · show (D.2.2.2 ++ [_]).length ≤ 100
              simp; omega
            · rw [hfar _ (by omega) (by omega) (by omega) (by omega) (by omega) (by omega)]; exact a2
            · have hT : RefT I37 q D := a3.mv (hfar _ (by omega) (by omega) (by omega) (by omega) (by omega) (by omega)) (hfar _ (by omega) (by omega) (by omega) (by omega) (by omega) (by omega))
              exact hT
            · intro s' st' hs'
              have hs2 : (D.2.2.1.set j (st.1, st.2.1, st.2.2.1, st.2.2.2 ++ [D.2.2.2.length]))[s']? = some st' := hs'
              rw [hfar _ (by omega) (by omega) (by omega) (by omega) (by omega) (by omega), hfar _ (by omega) (by omega) (by omega) (by omega) (by omega) (by omega), hfar _ (by omega) (by omega) (by omega) (by omega) (by omega) (by omega)]
              by_cases hsj : s' = j
              · subst hsj
                rw [List.getElem?_set_self hj1] at hs2
                cases hs2
                exact a4.1 s' st hst
              · rw [List.getElem?_set_ne (fun z => hsj z.symm)] at hs2
                exact a4.1 s' st' hs2
            · intro s' hs'
              rw [phS_ph hst, g5, g6]
              by_cases hsj : s' = j
              · subst hsj
                rw [if_pos rfl, va_up_self]
                refine ⟨by simp, by simp; omega, fun i p hip => ?_⟩
                by_cases hi : i < st.2.2.2.length
                · rw [List.getElem?_append_left hi] at hip
                  rw [va_up_ne _ _ (by omega)]; exact s3 i p hip
                · rw [List.getElem?_append_right (by omega)] at hip
                  have hi0 : i = st.2.2.2.length := by
                    have := (List.getElem?_eq_some_iff.mp hip).1
                    simp at this; omega
                  subst hi0
                  simp at hip
                  subst hip
                  rw [va_up_self]
              · rw [if_neg hsj, va_up_ne _ _ (by omega)]
                obtain ⟨u1, u2', u3⟩ := a4.2.1 s' hs'
                refine ⟨u1, u2', fun i p hip => ?_⟩
                have hil := (List.getElem?_eq_some_iff.mp hip).1
                rw [va_up_ne _ _ (by omega)]; exact u3 i p hip
            · rw [g5, va_up_ne _ _ (by omega)]; exact a4.2.2
            · intro p ph hp
              have hp2 : (D.2.2.2 ++ [((k, [w], []) : Phr)])[p]? = some ph := hp
              rw [g9, g10, g12]
              by_cases hpl : p < D.2.2.2.length
              · rw [List.getElem?_append_left hpl] at hp2
                obtain ⟨u1, u2', u3, u4⟩ := a5.1 p ph hp2
                rw [va_up_ne _ _ (by omega), va_up_ne _ _ (by omega)]
                refine ⟨u1, u2', u3, fun i x hi => ?_⟩
                have hil := (List.getElem?_eq_some_iff.mp hi).1
                show va_up _ _ _ (10 * p + i) = x
                rw [va_up_ne _ _ (by omega)]; exact u4 i x hi
              · rw [List.getElem?_append_right (by omega)] at hp2
                have hp0 : p = D.2.2.2.length := by
                  have := (List.getElem?_eq_some_iff.mp hp2).1
                  simp at this; omega
                subst hp0
                simp at hp2
                subst hp2
                refine ⟨va_up_self _ _ _, va_up_self _ _ _, by simp, fun i x hi => ?_⟩
                have hi0 : i = 0 := by
                  have := (List.getElem?_eq_some_iff.mp hi).1
                  simp at this; omega
                subst hi0
                simp at hi
                show va_up _ _ _ (10 * D.2.2.2.length) = x
                rw [va_up_self]; exact hi
            · intro p hp
              rw [toS_ph, hfar _ (by omega) (by omega) (by omega) (by omega) (by omega) (by omega), hfar _ (by omega) (by omega) (by omega) (by omega) (by omega) (by omega)]
              exact a5.2 p hp
            · exact hr2.mv (fun i b1 b2 => by rw [hq37, e16, u2_nk _ _ (by omega)]) (fun c b1 b2 => hfar _ (by omega) (by omega) (by omega) (by omega) (by omega) (by omega))
            · exact ho2.tr (fun a ha => hfar a (by omega) (by omega) (by omega) (by omega) (by omega) (by omega))
          · rw [he8] at y5
            rw [if_neg (by omega)]; exact ⟨rfl, h2, hr2, ho2⟩
      · rw [b2i_eq0] at y3
        rw [if_neg (by simp [y3])]; exact ⟨rfl, h2, hr2, ho2⟩
  · have hf : fPhr D s k w = (-2, D) := by unfold fPhr; rw [(nOf_cases (by omega) a1.2.1 z).2 z2]
    rw [hf]; exact ⟨rfl, h2, hr2, ho2⟩
theorem toS_set {D : Dt} {k p : Nat} {ph' : Phr} (hk : k < D.2.2.2.length) : toS (setP D k ph') p = if p = k then ph'.2.2 else toS D p := by
  unfold toS
  show (((D.2.2.2.set k ph')[p]?).map (fun ph => ph.2.2)).getD [] = _
  by_cases h : p = k
  · subst h; rw [List.getElem?_set_self hk, if_pos rfl]; rfl
  · rw [List.getElem?_set_ne (fun z => h z.symm), if_neg h]
theorem setP_D {I I' : TI} {k : Nat} {ph ph' : Phr} (h : RefD I q D) (hph : D.2.2.2[k]? = some ph) (h0 : I' q = I q) (hc : ∀ c, 1 ≤ c → c ≤ 9 → I' (q + c) = I (q + c)) (h1 : ph'.1 = ph.1)
    (h10 : I' (q + 10) = va_up (I (q + 10)) (k + 1) (nI ph'.2.1.length)) (hl1 : ph'.2.1.length ≤ 10) (h12 : ListAt (fun j => I' (q + 12) (10 * k + j)) ph'.2.1) (h12o : ∀ i, (i < 10 * k ∨ 10 * k + 10 ≤ i) → I' (q + 12) i = I (q + 12) i)
    (h11 : I' (q + 11) = va_up (I (q + 11)) (k + 1) (nI ph'.2.2.length)) (hl2 : ph'.2.2.length ≤ 10) (h13 : ListAt (fun j => I' (q + 13) (10 * k + j)) ph'.2.2) (h13o : ∀ i, (i < 10 * k ∨ 10 * k + 10 ≤ i) → I' (q + 13) i = I (q + 13) i) : RefD I' q (setP D k ph') := by
  have hk : k < D.2.2.2.length := (List.getElem?_eq_some_iff.mp hph).1
  obtain ⟨a1, a2, a3, a4, a5⟩ := h
  have hlen : (setP D k ph').2.2.2.length = D.2.2.2.length := by simp [setP]
  refine ⟨⟨by rw [h0]; exact a1.1, by rw [h0]; exact a1.2.1, by rw [h0, hlen]; exact a1.2.2.1, a1.2.2.2.1, a1.2.2.2.2.1, by rw [hlen]; exact a1.2.2.2.2.2⟩, by rw [hc 1 (by omega) (by omega)]; exact a2, a3.mv (hc 2 (by omega) (by omega)) (hc 3 (by omega) (by omega)), a4.mv (fun c q1 q2 => hc c (by omega) (by omega)), ⟨fun p ph2 hp => ?_, fun p hp => ?_⟩⟩
  · have hp2 : (D.2.2.2.set k ph')[p]? = some ph2 := hp
    rw [hc 9 (by omega) (by omega), h10]
    by_cases hpk : p = k
    · subst hpk
      rw [List.getElem?_set_self hk] at hp2
      cases hp2
      exact ⟨by rw [h1]; exact (a5.1 p ph hph).1, va_up_self _ _ _, hl1, h12⟩
    · rw [List.getElem?_set_ne (fun z => hpk z.symm)] at hp2
      obtain ⟨u1, u2', u3, u4⟩ := a5.1 p ph2 hp2
      refine ⟨u1, by rw [va_up_ne _ _ (by omega)]; exact u2', u3, fun i x hi => ?_⟩
      have hil := (List.getElem?_eq_some_iff.mp hi).1
      show I' (q + 12) (10 * p + i) = x
      rw [h12o _ (by omega)]; exact u4 i x hi
  · rw [toS_set hk, h11]
    by_cases hpk : p = k
    · subst hpk
      rw [if_pos rfl]
      exact ⟨va_up_self _ _ _, hl2, h13⟩
    · rw [if_neg hpk]
      obtain ⟨u1, u2', u3⟩ := a5.2 p hp
      refine ⟨by rw [va_up_ne _ _ (by omega)]; exact u1, u2', fun i x hi => ?_⟩
      have hil := (List.getElem?_eq_some_iff.mp hi).1
      show I' (q + 13) (10 * p + i) = x
      rw [h13o _ (by omega)]; exact u3 i x hi
theorem push10 {f : Nat → Int32} {b : Nat} {l : List Int32} {x : Int32} (h : ListAt (fun j => f (b + j)) l) : ListAt (fun j => va_up f (b + l.length) x (b + j)) (l ++ [x]) := by
  have e : (fun j => va_up f (b + l.length) x (b + j)) = va_up (fun j => f (b + j)) l.length x := by
    funext j
    unfold va_up
    by_cases hj : j = l.length
    · simp [hj]
    · rw [if_neg (by omega), if_neg hj]
  rw [e]; exact h.push
theorem up_same {α : Type} {f : Nat → α} {k : Nat} {v : α} (h : f k = v) : f = va_up f k v := by
  funext j
  unfold va_up
  by_cases hj : j = k
  · rw [if_pos hj, hj, h]
  · rw [if_neg hj]
theorem tX6_from {p w : Int32} (hF : RefF K N R q) (h : RefD I q D) (hr : RefRun I q res ring cp mt) : MtI l G yX6_from cX6_from 3 (some .int) (d + 1) [.ref q, .int p, .int w] K N I R L sz (AftR q res ring cp mt I (fFrom D p w)) := by
  refine sX6_from ⟨hF.1, fun I2 e2 => ?_⟩
  have h2 : RefD I2 q D := by rw [e2]; exact h.t0
  have hr2 : RefRun I2 q res ring cp mt := by rw [e2]; exact hr.t0
  have ho2 : offRef I I2 q := by rw [e2]; exact offRef.u (by omega)
  obtain ⟨a1, a2, a3, a4, a5⟩ := id h2
  have h100 := a1.2.2.2.2.2
  refine ⟨fun z => ?_, fun z => ⟨fun z2 => ?_, fun z2 => ?_⟩⟩
  · have hf : fFrom D p w = (-2, D) := by unfold fFrom; rw [show nOf D.2.2.2.length p = none from by simp [nOf, z]]
    rw [hf]; exact ⟨rfl, h2, hr2, ho2⟩
  · obtain ⟨k, hk1, rfl, hk⟩ := (nOf_cases (by omega) a1.2.2.1 z).1 z2
    obtain ⟨ph, hph⟩ : ∃ ph, D.2.2.2[k]? = some ph := ⟨_, List.getElem?_eq_getElem hk1⟩
    have hf0 : fFrom D (nI (k + 1)) w = if plOk w then (if ph.1 = 0 ∧ ph.2.1.length < 10 then (if w ≤ 0 then (nI ph.2.1.length, D) else (nI (ph.2.1.length + 1), setP D k (ph.1, ph.2.1 ++ [w], ph.2.2))) else (-1, D)) else (-4, D) := by unfold fFrom; rw [hk]; simp only [hph]
    rw [hf0]
    have hck : (nI (k + 1)).toNatClampNeg = k + 1 := nI_clamp (by omega)
    obtain ⟨u1, u2', u3, u4⟩ := a5.1 k ph hph
    obtain ⟨v1, v2, v3⟩ := a5.2 k (by omega)
    have hto : toS D k = ph.2.2 := by unfold toS; rw [hph]; rfl
    rw [hto] at v1 v2 v3
    have f9 := hF.2 9 (by decide) (by decide)
    have f10 := hF.2 10 (by decide) (by decide)
    have f12 := hF.2 12 (by decide) (by decide)
    have hin9 : vp_in (nI (k + 1)) (N (q + 9)) := by rw [f9.2.2]; exact vp_in_nI (show k + 1 < 101 by omega) (by decide)
    have hin10 : vp_in (nI (k + 1)) (N (q + 10)) := by rw [f10.2.2]; exact vp_in_nI (show k + 1 < 101 by omega) (by decide)
    have he10 : I2 (q + 10) (k + 1) = 10 ↔ ph.2.1.length = 10 := by rw [u2']; exact nI_eq (by omega) (b := 10) (by decide)
    have fin : ph.2.1.length < 10 → ∀ I15 : TI, I15 = u2 I2 (q + 12) (10 * k + ph.2.1.length) w → ∀ I16 : TI, I16 = u2 I15 (q + 10) (k + 1) ((I15 (q + 10) (k + 1)) + 1) → AftR q res ring cp mt I (nI (ph.2.1.length + 1), setP D k (ph.1, ph.2.1 ++ [w], ph.2.2)) (I16 (q + 10) (k + 1)) I16 := fun hn I15 e15 I16 e16 => by
      have p15 : I15 (q + 10) (k + 1) = nI ph.2.1.length := by rw [e15, u2_ne _ _ (by omega)]; exact u2'
      rw [p15, nI_1] at e16
      have hfar : ∀ a, a ≠ q + 10 → a ≠ q + 12 → I16 a = I2 a := fun a b1 b2 => by rw [e16, u2_ne _ _ b1, e15, u2_ne _ _ b2]
      have g12 : I16 (q + 12) = va_up (I2 (q + 12)) (10 * k + ph.2.1.length) w := by rw [e16, u2_ne _ _ (by omega), e15, u2_at]
      refine ⟨by rw [e16, u2_self], setP_D h2 hph (hfar _ (by omega) (by omega)) (fun c b1 b2 => hfar _ (by omega) (by omega)) rfl ?_ (by simp; omega) ?_ (fun i hi => ?_) ?_ v2 ?_ (fun i hi => ?_), hr2.mv (fun i b1 b2 => by rw [hfar _ (by omega) (by omega)]) (fun c b1 b2 => hfar _ (by omega) (by omega)), ho2.tr (fun a ha => hfar a (by omega) (by omega))⟩
      · rw [e16, u2_at, e15, u2_ne _ _ (by omega)]; simp
      · rw [g12]; exact push10 u4
      · rw [g12, va_up_ne _ _ (by omega)]
      · rw [hfar _ (by omega) (by omega)]; exact up_same v1
      · rw [hfar _ (by omega) (by omega)]; exact v3
      · rw [hfar _ (by omega) (by omega)]
    refine ⟨fun w0 => ?_, fun w0 => ⟨fun w1 => ?_, fun w1 => ⟨_, tX6_isWord, fun v I3 hv => ?_⟩⟩⟩
    · rw [if_pos (by simp [plOk, w0])]
      refine ⟨q + 9, f9.1, f9.2.1, hin9, ?_⟩
      rw [hck]
      refine ⟨fun y4 => ?_, fun y4 => ⟨q + 10, f10.1, f10.2.1, hin10, ?_⟩⟩
      · rw [u1] at y4
        rw [if_neg (fun w => y4 w.1)]; exact ⟨rfl, h2, hr2, ho2⟩
      · rw [u1] at y4
        refine ⟨fun y5 => ?_, fun y5 => ?_⟩
        · rw [he10] at y5
          have hn : ph.2.1.length < 10 := by omega
          rw [if_pos ⟨y4, hn⟩]
          refine ⟨fun y6 => ?_, fun y6 => ?_⟩
          · rw [if_pos y6]; exact ⟨u2', h2, hr2, ho2⟩
          · rw [if_neg y6, u2', nI_10, nI_clamp (by omega)]
            refine ⟨q + 12, f12.1, f12.2.1, by rw [f12.2.2]; exact vp_in_nI (show 10 * k + ph.2.1.length < 1010 by omega) (by decide), fun I15 e15 I16 e16 => ?_⟩
            exact fin hn I15 e15 I16 e16
        · rw [he10] at y5
          rw [if_neg (by omega)]; exact ⟨rfl, h2, hr2, ho2⟩
    · rw [if_pos (by simp [plOk, w1])]
      refine ⟨q + 9, f9.1, f9.2.1, hin9, ?_⟩
      rw [hck]
      refine ⟨fun y4 => ?_, fun y4 => ⟨q + 10, f10.1, f10.2.1, hin10, ?_⟩⟩
      · rw [u1] at y4
        rw [if_neg (fun w => y4 w.1)]; exact ⟨rfl, h2, hr2, ho2⟩
      · rw [u1] at y4
        refine ⟨fun y5 => ?_, fun y5 => ?_⟩
        · rw [he10] at y5
          have hn : ph.2.1.length < 10 := by omega
          rw [if_pos ⟨y4, hn⟩]
          refine ⟨fun y6 => ?_, fun y6 => ?_⟩
          · rw [if_pos y6]; exact ⟨u2', h2, hr2, ho2⟩
          · rw [if_neg y6, u2', nI_10, nI_clamp (by omega)]
            refine ⟨q + 12, f12.1, f12.2.1, by rw [f12.2.2]; exact vp_in_nI (show 10 * k + ph.2.1.length < 1010 by omega) (by decide), fun I15 e15 I16 e16 => ?_⟩
            exact fin hn I15 e15 I16 e16
        · rw [he10] at y5
          rw [if_neg (by omega)]; exact ⟨rfl, h2, hr2, ho2⟩
    · obtain ⟨hv, hI⟩ := hv
      rw [hv, hI]
      refine ⟨fun w2 => ?_, fun w2 => ?_⟩
      · rw [b2i_ne0] at w2
        rw [if_pos (by simp [plOk, w2])]
        refine ⟨q + 9, f9.1, f9.2.1, hin9, ?_⟩
        rw [hck]
        refine ⟨fun y4 => ?_, fun y4 => ⟨q + 10, f10.1, f10.2.1, hin10, ?_⟩⟩
        · rw [u1] at y4
          rw [if_neg (fun w => y4 w.1)]; exact ⟨rfl, h2, hr2, ho2⟩
        · rw [u1] at y4
          refine ⟨fun y5 => ?_, fun y5 => ?_⟩
          · rw [he10] at y5
            have hn : ph.2.1.length < 10 := by omega
            rw [if_pos ⟨y4, hn⟩]
            refine ⟨fun y6 => ?_, fun y6 => ?_⟩
            · rw [if_pos y6]; exact ⟨u2', h2, hr2, ho2⟩
            · rw [if_neg y6, u2', nI_10, nI_clamp (by omega)]
              refine ⟨q + 12, f12.1, f12.2.1, by rw [f12.2.2]; exact vp_in_nI (show 10 * k + ph.2.1.length < 1010 by omega) (by decide), fun I15 e15 I16 e16 => ?_⟩
              exact fin hn I15 e15 I16 e16
          · rw [he10] at y5
            rw [if_neg (by omega)]; exact ⟨rfl, h2, hr2, ho2⟩
      · rw [b2i_eq0] at w2
        rw [if_neg (by simp [plOk, w0, w1, w2])]; exact ⟨rfl, h2, hr2, ho2⟩
  · have hf : fFrom D p w = (-2, D) := by unfold fFrom; rw [(nOf_cases (by omega) a1.2.2.1 z).2 z2]
    rw [hf]; exact ⟨rfl, h2, hr2, ho2⟩
theorem tX6_to {p w : Int32} (hF : RefF K N R q) (h : RefD I q D) (hw : WfD D) (hr : RefRun I q res ring cp mt) : MtI l G yX6_to cX6_to 3 (some .int) (d + 1) [.ref q, .int p, .int w] K N I R L sz (AftR q res ring cp mt I (fTo D p w)) := by
  refine sX6_to ⟨hF.1, fun I2 e2 => ?_⟩
  have h2 : RefD I2 q D := by rw [e2]; exact h.t0
  have hr2 : RefRun I2 q res ring cp mt := by rw [e2]; exact hr.t0
  have ho2 : offRef I I2 q := by rw [e2]; exact offRef.u (by omega)
  obtain ⟨a1, a2, a3, a4, a5⟩ := id h2
  have h100 := a1.2.2.2.2.2
  refine ⟨fun z => ?_, fun z => ⟨fun z2 => ⟨_, tX6_isWord, fun v I3 hv => ?_⟩, fun z2 => ?_⟩⟩
  · have hf : fTo D p w = (-2, D) := by unfold fTo; rw [show nOf D.2.2.2.length p = none from by simp [nOf, z]]
    rw [hf]; exact ⟨rfl, h2, hr2, ho2⟩
  · obtain ⟨hv, hI⟩ := hv
    rw [hv, hI]
    obtain ⟨k, hk1, rfl, hk⟩ := (nOf_cases (by omega) a1.2.2.1 z).1 z2
    obtain ⟨ph, hph⟩ : ∃ ph, D.2.2.2[k]? = some ph := ⟨_, List.getElem?_eq_getElem hk1⟩
    have hok := hw.2.2.1 ph (List.mem_of_getElem? hph)
    have hf0 : fTo D (nI (k + 1)) w = if (if ph.1 = 0 then plOk w else wd w) = true then (if ph.2.2.length < (if ph.1 = 0 then 10 else 1) then (nI (ph.2.2.length + 1), setP D k (ph.1, ph.2.1, ph.2.2 ++ [w])) else (-1, D)) else (-4, D) := by unfold fTo; rw [hk]; simp only [hph]
    rw [hf0]
    have hck : (nI (k + 1)).toNatClampNeg = k + 1 := nI_clamp (by omega)
    obtain ⟨u1, u2', u3, u4⟩ := a5.1 k ph hph
    obtain ⟨v1, v2, v3⟩ := a5.2 k (by omega)
    have hto : toS D k = ph.2.2 := by unfold toS; rw [hph]; rfl
    rw [hto] at v1 v2 v3
    have f9 := hF.2 9 (by decide) (by decide)
    have f11 := hF.2 11 (by decide) (by decide)
    have f13 := hF.2 13 (by decide) (by decide)
    have hin9 : vp_in (nI (k + 1)) (N (q + 9)) := by rw [f9.2.2]; exact vp_in_nI (show k + 1 < 101 by omega) (by decide)
    have hin11 : vp_in (nI (k + 1)) (N (q + 11)) := by rw [f11.2.2]; exact vp_in_nI (show k + 1 < 101 by omega) (by decide)
    have he10 : I2 (q + 11) (k + 1) = 10 ↔ ph.2.2.length = 10 := by rw [v1]; exact nI_eq (by omega) (b := 10) (by decide)
    have he1 : I2 (q + 11) (k + 1) = 1 ↔ ph.2.2.length = 1 := by rw [v1]; exact nI_eq (by omega) (b := 1) (by decide)
    have fin : ph.2.2.length < 10 → ∃ b : Nat, R q 16 = some b ∧ K b = 20 ∧ vp_in (10 * nI (k + 1) - 10 + I2 (q + 11) (k + 1)) (N b) ∧ ∀ I15 : TI, I15 = u2 I2 b (Int32.toNatClampNeg (10 * nI (k + 1) - 10 + I2 (q + 11) (k + 1))) w → ∀ I16 : TI, I16 = u2 I15 (q + 11) (k + 1) ((I15 (q + 11) (k + 1)) + 1) → AftR q res ring cp mt I (nI (ph.2.2.length + 1), setP D k (ph.1, ph.2.1, ph.2.2 ++ [w])) (I16 (q + 11) (k + 1)) I16 := fun hn => by
      rw [v1, nI_10, nI_clamp (by omega)]
      refine ⟨q + 13, f13.1, f13.2.1, by rw [f13.2.2]; exact vp_in_nI (show 10 * k + ph.2.2.length < 1010 by omega) (by decide), fun I15 e15 I16 e16 => ?_⟩
      have p15 : I15 (q + 11) (k + 1) = nI ph.2.2.length := by rw [e15, u2_ne _ _ (by omega)]; exact v1
      rw [p15, nI_1] at e16
      have hfar : ∀ a, a ≠ q + 11 → a ≠ q + 13 → I16 a = I2 a := fun a b1 b2 => by rw [e16, u2_ne _ _ b1, e15, u2_ne _ _ b2]
      have g13 : I16 (q + 13) = va_up (I2 (q + 13)) (10 * k + ph.2.2.length) w := by rw [e16, u2_ne _ _ (by omega), e15, u2_at]
      refine ⟨by rw [e16, u2_self], setP_D h2 hph (hfar _ (by omega) (by omega)) (fun c b1 b2 => hfar _ (by omega) (by omega)) rfl ?_ u3 ?_ (fun i hi => ?_) ?_ (by simp; omega) ?_ (fun i hi => ?_), hr2.mv (fun i b1 b2 => by rw [hfar _ (by omega) (by omega)]) (fun c b1 b2 => hfar _ (by omega) (by omega)), ho2.tr (fun a ha => hfar a (by omega) (by omega))⟩
      · rw [hfar _ (by omega) (by omega)]; exact up_same u2'
      · rw [hfar _ (by omega) (by omega)]; exact u4
      · rw [hfar _ (by omega) (by omega)]
      · rw [e16, u2_at, e15, u2_ne _ _ (by omega)]; simp
      · rw [g13]; exact push10 v3
      · rw [g13, va_up_ne _ _ (by omega)]
    -- a plain one at kind 0
    have k0 : ph.1 = 0 → plOk w = true → ((¬ I2 (q + 11) (k + 1) = 10 → ∃ b : Nat, R q 16 = some b ∧ K b = 20 ∧ vp_in (10 * nI (k + 1) - 10 + I2 (q + 11) (k + 1)) (N b) ∧ ∀ I15 : TI, I15 = u2 I2 b (Int32.toNatClampNeg (10 * nI (k + 1) - 10 + I2 (q + 11) (k + 1))) w → ∀ I16 : TI, I16 = u2 I15 (q + 11) (k + 1) ((I15 (q + 11) (k + 1)) + 1) → AftR q res ring cp mt I (if (if ph.1 = 0 then plOk w else wd w) = true then (if ph.2.2.length < (if ph.1 = 0 then 10 else 1) then (nI (ph.2.2.length + 1), setP D k (ph.1, ph.2.1, ph.2.2 ++ [w])) else (-1, D)) else (-4, D)) (I16 (q + 11) (k + 1)) I16) ∧ (I2 (q + 11) (k + 1) = 10 → AftR q res ring cp mt I (if (if ph.1 = 0 then plOk w else wd w) = true then (if ph.2.2.length < (if ph.1 = 0 then 10 else 1) then (nI (ph.2.2.length + 1), setP D k (ph.1, ph.2.1, ph.2.2 ++ [w])) else (-1, D)) else (-4, D)) (-1) I2)) := fun kz hp => by
      rw [if_pos (by rw [if_pos kz]; exact hp), if_pos kz]
      refine ⟨fun y => ?_, fun y => ?_⟩
      · rw [he10] at y
        rw [if_pos (by omega)]
        exact fin (by omega)
      · rw [he10] at y
        rw [if_neg (by omega)]; exact ⟨rfl, h2, hr2, ho2⟩
    have k1 : ¬ ph.1 = 0 → wd w = true → ((¬ I2 (q + 11) (k + 1) = 1 → ∃ b : Nat, R q 16 = some b ∧ K b = 20 ∧ vp_in (10 * nI (k + 1) - 10 + I2 (q + 11) (k + 1)) (N b) ∧ ∀ I15 : TI, I15 = u2 I2 b (Int32.toNatClampNeg (10 * nI (k + 1) - 10 + I2 (q + 11) (k + 1))) w → ∀ I16 : TI, I16 = u2 I15 (q + 11) (k + 1) ((I15 (q + 11) (k + 1)) + 1) → AftR q res ring cp mt I (if (if ph.1 = 0 then plOk w else wd w) = true then (if ph.2.2.length < (if ph.1 = 0 then 10 else 1) then (nI (ph.2.2.length + 1), setP D k (ph.1, ph.2.1, ph.2.2 ++ [w])) else (-1, D)) else (-4, D)) (I16 (q + 11) (k + 1)) I16) ∧ (I2 (q + 11) (k + 1) = 1 → AftR q res ring cp mt I (if (if ph.1 = 0 then plOk w else wd w) = true then (if ph.2.2.length < (if ph.1 = 0 then 10 else 1) then (nI (ph.2.2.length + 1), setP D k (ph.1, ph.2.1, ph.2.2 ++ [w])) else (-1, D)) else (-4, D)) (-1) I2)) := fun kz hp => by
      have hle := (hok.2.2.2.2 kz).2.1
      rw [if_pos (by rw [if_neg kz]; exact hp), if_neg kz]
      refine ⟨fun y => ?_, fun y => ?_⟩
      · rw [he1] at y
        rw [if_pos (by omega)]
        exact fin (by omega)
      · rw [he1] at y
        rw [if_neg (by omega)]; exact ⟨rfl, h2, hr2, ho2⟩
    refine ⟨fun y => ?_, fun y => ?_⟩
    · rw [b2i_ne0] at y
      refine ⟨q + 11, f11.1, f11.2.1, hin11, q + 9, f9.1, f9.2.1, hin9, ?_⟩
      rw [hck, u1]
      exact ⟨fun y2 => k1 y2 y, fun y2 => k0 y2 (by simp [plOk, y])⟩
    · rw [b2i_eq0] at y
      refine ⟨q + 9, f9.1, f9.2.1, hin9, ?_⟩
      rw [hck, u1]
      refine ⟨fun y2 => ?_, fun y2 => ⟨fun w0 => ⟨q + 11, f11.1, f11.2.1, hin11, ?_⟩, fun w0 => ⟨fun w1 => ⟨q + 11, f11.1, f11.2.1, hin11, ?_⟩, fun w1 => ?_⟩⟩⟩
      · rw [if_neg (by rw [if_neg y2, y]; decide)]; exact ⟨rfl, h2, hr2, ho2⟩
      · exact ⟨fun y3 => absurd y2 y3, fun _ => k0 y2 (by simp [plOk, w0])⟩
      · exact ⟨fun y3 => absurd y2 y3, fun _ => k0 y2 (by simp [plOk, w1])⟩
      · rw [if_neg (by rw [if_pos y2]; simp [plOk, w0, w1, y])]; exact ⟨rfl, h2, hr2, ho2⟩
  · have hf : fTo D p w = (-2, D) := by unfold fTo; rw [(nOf_cases (by omega) a1.2.2.1 z).2 z2]
    rw [hf]; exact ⟨rfl, h2, hr2, ho2⟩
end REF3
