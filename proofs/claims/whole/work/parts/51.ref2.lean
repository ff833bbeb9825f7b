/-! the reference: copy, replace, at, place, ring, count -/
section REF2
variable {l : Launch} {G : Gx} {d : Nat} {K N : TK} {I : TI} {R : TR} {L : TL} {sz q : Nat} {D : Dt} {res : List It} {ring : List Int32} {cp mt : Int32}
theorem phS_app {D : Dt} {st : Stt} {s : Nat} (hst : st.2.2.2 = []) : phS (addS D st) s = phS D s := by
  unfold phS
  show ((D.2.2.1 ++ [st])[s]?.map (fun st => st.2.2.2)).getD [] = _
  by_cases h : s < D.2.2.1.length
  · rw [List.getElem?_append_left h]
  · have e1 : D.2.2.1[s]? = none := List.getElem?_eq_none (by omega)
    rw [List.getElem?_append_right (by omega), e1]
    by_cases h0 : s = D.2.2.1.length
    · subst h0; simp [hst]
    · have e2 : [st][s - D.2.2.1.length]? = none := List.getElem?_eq_none (by simp only [List.length_singleton]; omega)
      rw [e2]
theorem tX6_statement {k : Nat} {c hid : Bool} {x : Int32} (hF : RefF K N R q) (h : RefD I q D) (hr : RefRun I q res ring cp mt) (hk : k ≤ 12) : MtI l G yX6_statement cX6_statement 5 (some .int) (d + 1) [.ref q, .int (nI k), .int (b2i c), .int x, .int (b2i hid)] K N I R L sz (AftR q res ring cp mt I (fSt D k c x hid)) := by
  obtain ⟨a1, a2, a3, a4, a5⟩ := id h
  obtain ⟨t1, t2, t3⟩ := a3 k hk
  have h60 := a1.2.2.2.2.1
  have hct : (nI k).toNatClampNeg = k := nI_clamp (by omega)
  have f2 := hF.2 2 (by decide) (by decide)
  have f4 := hF.2 4 (by decide) (by decide)
  have f7 := hF.2 7 (by decide) (by decide)
  have f8 := hF.2 8 (by decide) (by decide)
  have h200 : I (q + 2) k = 200 ↔ (D.2.1 k).length = 200 := by rw [t1]; exact nI_eq (by omega) (b := 200) (by decide)
  have he60 : I q 2 = 60 ↔ D.2.2.1.length = 60 := by rw [a1.2.1]; exact nI_eq (by omega) (b := 60) (by decide)
  refine sX6_statement ⟨hF.1, q + 2, f2.1, f2.2.1, by rw [f2.2.2]; exact vp_in_nI (show k < 13 by omega) (by decide), ?_⟩
  rw [hct]
  refine ⟨fun z => ?_, fun z => ⟨fun z2 I6 e6 => ?_, fun z2 => ?_⟩⟩
  · rw [h200] at z
    have hf : fSt D k c x hid = (-1, D) := by unfold fSt; rw [if_neg (by omega)]
    rw [hf]; exact ⟨rfl, h, hr, fun _ _ => rfl⟩
  · rw [h200] at z
    rw [he60] at z2
    have hn : (D.2.1 k).length < 200 := by omega
    have hns : D.2.2.1.length < 60 := by omega
    have hf : fSt D k c x hid = (nI (D.2.2.1.length + 1), addS (addT D k (stE c (D.2.2.1.length + 1))) (c, x, hid, [])) := by unfold fSt; rw [if_pos ⟨hns, hn⟩]
    rw [hf]
    rw [a1.2.1, nI_1] at e6
    have i6 : I6 q 2 = nI (D.2.2.1.length + 1) := by rw [e6, u2_self]
    refine ⟨q + 7, f7.1, f7.2.1, by rw [i6, f7.2.2]; exact vp_in_nI (show D.2.2.1.length + 1 < 61 by omega) (by decide), b2i_01 c, fun I12 e12 => ?_⟩
    rw [i6, nI_clamp (by omega)] at e12
    have i12 : I12 q 2 = nI (D.2.2.1.length + 1) := by rw [e12, u2_ne _ _ (by omega)]; exact i6
    refine ⟨q + 4, f4.1, f4.2.1, by rw [i12, f4.2.2]; exact vp_in_nI (show D.2.2.1.length + 1 < 61 by omega) (by decide), fun I17 e17 => ?_⟩
    rw [i12, nI_clamp (by omega)] at e17
    have i17 : I17 q 2 = nI (D.2.2.1.length + 1) := by rw [e17, u2_ne _ _ (by omega)]; exact i12
    refine ⟨q + 8, f8.1, f8.2.1, by rw [i17, f8.2.2]; exact vp_in_nI (show D.2.2.1.length + 1 < 61 by omega) (by decide), b2i_01 hid, fun I23 e23 => ?_⟩
    rw [i17, nI_clamp (by omega)] at e23
    have i23 : I23 q 2 = nI (D.2.2.1.length + 1) := by rw [e23, u2_ne _ _ (by omega)]; exact i17
    have hfar : ∀ a, a ≠ q → a ≠ q + 4 → a ≠ q + 7 → a ≠ q + 8 → I23 a = I a := fun a y1 y2 y3 y4 => by rw [e23, u2_ne _ _ y4, e17, u2_ne _ _ y2, e12, u2_ne _ _ y3, e6, u2_ne _ _ y1]
    have hq23 : ∀ j, j ≠ 2 → I23 q j = I q j := fun j hj => by rw [e23, u2_ne _ _ (by omega), e17, u2_ne _ _ (by omega), e12, u2_ne _ _ (by omega), e6, u2_nk _ _ hj]
    have g4 : I23 (q + 4) = va_up (I (q + 4)) (D.2.2.1.length + 1) x := by rw [e23, u2_ne _ _ (by omega), e17, u2_at, e12, u2_ne _ _ (by omega), e6, u2_ne _ _ (by omega)]
    have g7 : I23 (q + 7) = va_up (I (q + 7)) (D.2.2.1.length + 1) (b2i c) := by rw [e23, u2_ne _ _ (by omega), e17, u2_ne _ _ (by omega), e12, u2_at, e6, u2_ne _ _ (by omega)]
    have g8 : I23 (q + 8) = va_up (I (q + 8)) (D.2.2.1.length + 1) (b2i hid) := by rw [e23, u2_at, e17, u2_ne _ _ (by omega), e12, u2_ne _ _ (by omega), e6, u2_ne _ _ (by omega)]
    have hT23 : RefT I23 q D := a3.mv (hfar _ (by omega) (by omega) (by omega) (by omega)) (hfar _ (by omega) (by omega) (by omega) (by omega))
    have fin : ∀ (v : Int32) (I' : TI), (v = nI ((D.2.1 k).length + 1) ∧ I' = radd I23 q k (D.2.1 k).length (stE c (D.2.2.1.length + 1))) → AftR q res ring cp mt I (nI (D.2.2.1.length + 1), addS (addT D k (stE c (D.2.2.1.length + 1))) (c, x, hid, [])) (I' q 2) I' := fun v I' hv => by
      obtain ⟨-, rfl⟩ := hv
      have hrq : radd I23 q k (D.2.1 k).length (stE c (D.2.2.1.length + 1)) q = I23 q := radd_far (by omega) (by omega)
      have hrc : ∀ c', 4 ≤ c' → radd I23 q k (D.2.1 k).length (stE c (D.2.2.1.length + 1)) (q + c') = I23 (q + c') := fun c' hc => radd_far (by omega) (by omega)
      refine ⟨by rw [hrq]; exact i23, ⟨⟨?_, ?_, ?_, a1.2.2.2.1, ?_, a1.2.2.2.2.2⟩, ?_, ?_, ⟨?_, ?_, ?_⟩, ?_⟩, ?_, ?_⟩
      · rw [hrq, hq23 1 (by decide)]; exact a1.1
      · rw [hrq, i23]
        show nI (D.2.2.1.length + 1) = nI (D.2.2.1 ++ [_]).length
        simp
      · rw [hrq, hq23 3 (by decide)]; exact a1.2.2.1
      · show (D.2.2.1 ++ [_]).length ≤ 60
        simp; omega
      · rw [radd_far (by omega) (by omega), hfar _ (by omega) (by omega) (by omega) (by omega)]; exact a2
      · have := radd_T (e := stE c (D.2.2.1.length + 1)) hT23 hk hn
        exact this
      · intro s st hs
        have hs2 : (D.2.2.1 ++ [((c, x, hid, []) : Stt)])[s]? = some st := hs
        rw [hrc 4 (by omega), hrc 7 (by omega), hrc 8 (by omega), g4, g7, g8]
        by_cases hsl : s < D.2.2.1.length
        · rw [List.getElem?_append_left hsl] at hs2
          rw [va_up_ne _ _ (by omega), va_up_ne _ _ (by omega), va_up_ne _ _ (by omega)]
          exact a4.1 s st hs2
        · rw [List.getElem?_append_right (by omega)] at hs2
          have hs0 : s = D.2.2.1.length := by
            have := (List.getElem?_eq_some_iff.mp hs2).1
            simp at this; omega
          subst hs0
          simp at hs2
          subst hs2
          exact ⟨va_up_self _ _ _, va_up_self _ _ _, va_up_self _ _ _⟩
      · intro s hs
        rw [phS_app rfl, hrc 5 (by omega), hrc 6 (by omega), hfar _ (by omega) (by omega) (by omega) (by omega), hfar _ (by omega) (by omega) (by omega) (by omega)]
        exact a4.2.1 s hs
      · rw [hrc 5 (by omega), hfar _ (by omega) (by omega) (by omega) (by omega)]; exact a4.2.2
      · exact a5.mv (fun c' y1 y2 => by rw [hrc c' (by omega), hfar _ (by omega) (by omega) (by omega) (by omega)])
      · refine (radd_R ?_)
        exact hr.mv (fun j y1 y2 => hq23 j (by omega)) (fun c' y1 y2 => hfar _ (by omega) (by omega) (by omega) (by omega))
      · exact offRef.tr (fun a ha => hfar a (by omega) (by omega) (by omega) (by omega)) radd_o
    rw [i23]
    refine ⟨fun z => ⟨_, tX6_add hF hT23 hk hn, fun v I' hv => ?_⟩, fun z => ⟨_, tX6_add hF hT23 hk hn, fun v I' hv => ?_⟩⟩
    · rw [b2i_eq0] at z
      subst z
      exact fin v I' hv
    · rw [b2i_ne0] at z
      subst z
      exact fin v I' hv
  · rw [he60] at z2
    have hf : fSt D k c x hid = (-1, D) := by unfold fSt; rw [if_neg (by omega)]
    rw [hf]; exact ⟨rfl, h, hr, fun _ _ => rfl⟩
theorem AftR.from {I I2 : TI} {x : Int32 × Dt} {v : Int32} {I' : TI} (ho : offRef I I2 q) (h : AftR q res ring cp mt I2 x v I') : AftR q res ring cp mt I x v I' := ⟨h.1, h.2.1, h.2.2.1, ho.tr h.2.2.2⟩
theorem tX6_copy {t x : Int32} {hid : Bool} (hF : RefF K N R q) (h : RefD I q D) (hr : RefRun I q res ring cp mt) : MtI l G yX6_copy cX6_copy 4 (some .int) (d + 2) [.ref q, .int t, .int x, .int (b2i hid)] K N I R L sz (AftR q res ring cp mt I (fCopy D t x hid)) := by
  refine sX6_copy (d := d + 1) ⟨hF.1, fun I2 e2 => ?_⟩
  have h2 : RefD I2 q D := by rw [e2]; exact h.t0
  have hr2 : RefRun I2 q res ring cp mt := by rw [e2]; exact hr.t0
  have ho2 : offRef I I2 q := by rw [e2]; exact offRef.u (by omega)
  have h99 : ∀ z : ¬ x < 0, (x ≤ 99 ↔ ¬ 99 < x) := fun z => by
    rw [Int32.le_iff_toInt_le, Int32.lt_iff_toInt_lt]; omega
  refine ⟨_, tX6_isText hF h2.1, fun v I3 hv => ?_⟩
  obtain ⟨rfl, rfl⟩ := hv
  refine ⟨fun z => ?_, fun z => ?_⟩
  · rw [b2i_ne0] at z
    obtain ⟨k, hk⟩ := Option.isSome_iff_exists.mp z
    obtain ⟨hk1, rfl⟩ := tOf_spec h2.1.2.2.2.1 hk
    have hk12 : k ≤ 12 := by have := h2.1.2.2.2.1; omega
    have hf : fCopy D (nI k) x hid = if nmOk x then fSt D k true x hid else (-4, D) := by unfold fCopy; rw [hk]
    rw [hf]
    refine ⟨fun y => ?_, fun y => ⟨fun y2 => ⟨_, tX6_statement (c := true) hF h2 hr2 hk12, fun v I' hv => ?_⟩, fun y2 => ?_⟩⟩
    · rw [if_neg (by simp [nmOk, y])]; exact ⟨rfl, h2, hr2, ho2⟩
    · rw [h99 y] at y2
      rw [if_pos (by simp [nmOk, y, y2])]
      exact AftR.from ho2 hv
    · rw [h99 y] at y2
      rw [if_neg (by intro w; simp [nmOk] at w; exact y2 (by simpa using w.2))]; exact ⟨rfl, h2, hr2, ho2⟩
  · rw [b2i_eq0] at z
    have hz : tOf D t = none := by simpa using z
    have hf : fCopy D t x hid = (-2, D) := by unfold fCopy; rw [hz]
    rw [hf]
    exact ⟨rfl, h2, hr2, ho2⟩
theorem tX6_replace {t : Int32} (hF : RefF K N R q) (h : RefD I q D) (hr : RefRun I q res ring cp mt) : MtI l G yX6_replace cX6_replace 2 (some .int) (d + 2) [.ref q, .int t] K N I R L sz (AftR q res ring cp mt I (fRep D t)) := by
  refine sX6_replace (d := d + 1) ⟨hF.1, fun I2 e2 => ?_⟩
  have h2 : RefD I2 q D := by rw [e2]; exact h.t0
  have hr2 : RefRun I2 q res ring cp mt := by rw [e2]; exact hr.t0
  have ho2 : offRef I I2 q := by rw [e2]; exact offRef.u (by omega)
  refine ⟨_, tX6_isText hF h2.1, fun v I3 hv => ?_⟩
  obtain ⟨rfl, rfl⟩ := hv
  refine ⟨fun z => ?_, fun z => ?_⟩
  · rw [b2i_eq0] at z
    have hz : tOf D t = none := by simpa using z
    have hf : fRep D t = (-2, D) := by unfold fRep; rw [hz]
    rw [hf]
    exact ⟨rfl, h2, hr2, ho2⟩
  · rw [b2i_ne0] at z
    obtain ⟨k, hk⟩ := Option.isSome_iff_exists.mp z
    obtain ⟨hk1, rfl⟩ := tOf_spec h2.1.2.2.2.1 hk
    have hk12 : k ≤ 12 := by have := h2.1.2.2.2.1; omega
    have hf : fRep D (nI k) = fSt D k false 0 false := by unfold fRep; rw [hk]
    rw [hf]
    exact ⟨_, tX6_statement (c := false) (hid := false) hF h2 hr2 hk12, fun v I' hv => AftR.from ho2 hv⟩
/-- at: what it answers, and whether it would throw -/
theorem tX6_at {i : Int32} (hF : RefF K N R q) (h : RefD I q D) (hr : RefRun I q res ring cp mt) : MtI l G yX6_at cX6_at 2 (some .int) d [.ref q, .int i] K N I R L sz (fun v I' => RefD I' q D ∧ RefRun I' q res ring cp mt ∧ offRef I I' q ∧ ((rAt res i = none ∧ I' q 0 = 1) ∨ ∃ x, rAt res i = some x ∧ I' q 0 = 0 ∧ v = x.1)) := by
  have h300 := hr.2.1
  have f14 := hF.2 14 (by decide) (by decide)
  have no : ∀ (v : Int32), rAt res i = none → (RefD (u2 I q 0 1) q D ∧ RefRun (u2 I q 0 1) q res ring cp mt ∧ offRef I (u2 I q 0 1) q ∧ ((rAt res i = none ∧ (u2 I q 0 1) q 0 = 1) ∨ ∃ x, rAt res i = some x ∧ (u2 I q 0 1) q 0 = 0 ∧ v = x.1)) := fun v hn => ⟨h.t0, hr.t0, offRef.u (by omega), Or.inl ⟨hn, u2_self _ _ _ _⟩⟩
  refine sX6_at ⟨fun z => ⟨hF.1, fun I2 e2 => ?_⟩, fun z => ⟨hF.1, fun z2 I2 e2 => ?_, fun z2 I2 e2 => ?_⟩⟩
  · subst e2
    exact ⟨fun _ => no _ (by simp [rAt, hasB, z]), fun y => absurd y (by rw [u2_self]; decide)⟩
  · subst e2
    rw [hr.1] at z2
    exact ⟨fun _ => no _ (by simp [rAt, hasB, z2]), fun y => absurd y (by rw [u2_self]; decide)⟩
  · subst e2
    rw [hr.1] at z2
    refine ⟨fun y => absurd (u2_self _ _ _ _) y, fun _ => ?_⟩
    obtain ⟨j, hj, rfl⟩ := nI_of z
    rw [nI_leI (by omega) hj] at z2
    have hjl : j < res.length := by omega
    obtain ⟨x, hx⟩ : ∃ x, res[j]? = some x := ⟨_, List.getElem?_eq_getElem hjl⟩
    have hb : hasB res.length (nI j) = true := by rw [hasB_nI hj (by omega)]; simp [hjl]
    have hA : rAt res (nI j) = some x := by unfold rAt; rw [if_pos hb, nI_clamp hj]; exact hx
    refine ⟨q + 14, f14.1, f14.2.1, by rw [f14.2.2]; exact vp_in_nI (show j < 4530 by omega) (by decide), h.t0, hr.t0, offRef.u (by omega), Or.inr ⟨x, hA, u2_self _ _ _ _, ?_⟩⟩
    rw [nI_clamp hj, u2_ne _ _ (by omega)]
    exact (hr.2.2.1 j x hx).1
theorem tX6_place {i w : Int32} (hF : RefF K N R q) (h : RefD I q D) (hr : RefRun I q res ring cp mt) : MtI l G yX6_place cX6_place 3 (some .int) d [.ref q, .int i, .int w] K N I R L sz (AftR q res ring cp mt I (fPlace res i w, D)) := by
  have h300 := hr.2.1
  refine sX6_place ⟨hF.1, fun I2 e2 => ?_⟩
  have h2 : RefD I2 q D := by rw [e2]; exact h.t0
  have hr2 : RefRun I2 q res ring cp mt := by rw [e2]; exact hr.t0
  have ho2 : offRef I I2 q := by rw [e2]; exact offRef.u (by omega)
  refine ⟨fun z => ⟨?_, h2, hr2, ho2⟩, fun z => ⟨fun z2 => ?_, fun z2 => ⟨?_, h2, hr2, ho2⟩⟩⟩
  · simp [fPlace, rAt, hasB, z]
  · obtain ⟨j, hj, rfl⟩ := nI_of z
    rw [hr2.1, nI_ltI hj (by omega)] at z2
    obtain ⟨x, hx⟩ : ∃ x, res[j]? = some x := ⟨_, List.getElem?_eq_getElem z2⟩
    have hb : hasB res.length (nI j) = true := by rw [hasB_nI hj (by omega)]; simp [z2]
    have hA : rAt res (nI j) = some x := by unfold rAt; rw [if_pos hb, nI_clamp hj]; exact hx
    have hf : fPlace res (nI j) w = itF x w := by unfold fPlace; rw [hA]
    obtain ⟨y1, y2, y3, y4, y5, y6⟩ := hr2.2.2.1 j x hx
    have hin : vp_in (nI j) 4530 := vp_in_nI (by omega) (by decide)
    have fc : ∀ c, 15 ≤ c → c ≤ 19 → R q (fdF c) = some (q + c) ∧ K (q + c) = 20 ∧ vp_in (nI j) (N (q + c)) := fun c c1 c2 => by
      obtain ⟨g1, g2, g3⟩ := hF.2 c (by omega) (by omega)
      refine ⟨g1, by rw [g2]; unfold kdF; rw [if_neg (by omega)], ?_⟩
      rw [g3]
      rcases (show c = 15 ∨ c = 16 ∨ c = 17 ∨ c = 18 ∨ c = 19 by omega) with rfl | rfl | rfl | rfl | rfl <;> exact hin
    rw [nI_clamp hj, hf]
    refine ⟨fun z => ⟨?_, h2, hr2, ho2⟩, fun z => ⟨q + 15, (fc 15 (by omega) (by omega)).1, (fc 15 (by omega) (by omega)).2.1, (fc 15 (by omega) (by omega)).2.2, ?_, h2, hr2, ho2⟩, fun z => ⟨q + 16, (fc 16 (by omega) (by omega)).1, (fc 16 (by omega) (by omega)).2.1, (fc 16 (by omega) (by omega)).2.2, ?_, h2, hr2, ho2⟩, fun z => ⟨q + 17, (fc 17 (by omega) (by omega)).1, (fc 17 (by omega) (by omega)).2.1, (fc 17 (by omega) (by omega)).2.2, ?_, h2, hr2, ho2⟩, fun z => ⟨q + 18, (fc 18 (by omega) (by omega)).1, (fc 18 (by omega) (by omega)).2.1, (fc 18 (by omega) (by omega)).2.2, ?_, h2, hr2, ho2⟩, fun z => ⟨q + 19, (fc 19 (by omega) (by omega)).1, (fc 19 (by omega) (by omega)).2.1, (fc 19 (by omega) (by omega)).2.2, ?_, h2, hr2, ho2⟩⟩
    · obtain ⟨z0, z1, z2, z3, z4⟩ := out4 z
      simp [itF, z0, z1, z2, z3, z4]
    · rw [y2, z]; rfl
    · rw [y3, z]; rfl
    · rw [y4, z]; rfl
    · rw [y6, z]; rfl
    · rw [y5, z]; rfl
  · obtain ⟨j, hj, rfl⟩ := nI_of z
    rw [hr2.1, nI_ltI hj (by omega)] at z2
    have hb : hasB res.length (nI j) = false := by rw [hasB_nI hj (by omega)]; simp; omega
    simp [fPlace, rAt, hb]
theorem tX6_ring {i : Int32} (hF : RefF K N R q) (h : RefD I q D) (hr : RefRun I q res ring cp mt) : MtI l G yX6_ring cX6_ring 2 (some .int) d [.ref q, .int i] K N I R L sz (AftR q res ring cp mt I (fRing ring i, D)) := by
  refine sX6_ring ⟨hF.1, fun I2 e2 => ?_⟩
  have h2 : RefD I2 q D := by rw [e2]; exact h.t0
  have hr2 : RefRun I2 q res ring cp mt := by rw [e2]; exact hr.t0
  have ho2 : offRef I I2 q := by rw [e2]; exact offRef.u (by omega)
  obtain ⟨-, -, -, r1, r2, r3, -, -⟩ := id hr2
  have f24 := hF.2 24 (by decide) (by decide)
  refine ⟨fun z => ⟨?_, h2, hr2, ho2⟩, fun z => ⟨fun z2 => ⟨?_, h2, hr2, ho2⟩, fun z2 => ?_⟩⟩
  · simp [fRing, hasB, z]
  · rw [r1] at z2; simp [fRing, hasB, z2]
  · obtain ⟨j, hj, rfl⟩ := nI_of z
    rw [r1, nI_leI (by omega) hj] at z2
    have hj2 : j < ring.length := by omega
    refine ⟨q + 24, f24.1, f24.2.1, by rw [f24.2.2]; exact vp_in_nI (show j < 14 by omega) (by decide), ?_, h2, hr2, ho2⟩
    rw [nI_clamp hj]
    have hb : hasB ring.length (nI j) = true := by rw [hasB_nI hj (by omega)]; simp [hj2]
    show _ = fRing ring (nI j)
    rw [fRing, if_pos hb, nI_clamp hj, r3 j _ (List.getElem?_eq_getElem hj2)]
    simp [List.getD_eq_getElem?_getD, List.getElem?_eq_getElem hj2]
theorem tX6_count {w : Int32} (hF : RefF K N R q) (h : RefD I q D) (hr : RefRun I q res ring cp mt) : MtI l G yX6_count cX6_count 2 (some .int) d [.ref q, .int w] K N I R L sz (AftR q res ring cp mt I (fCount D cp mt w, D)) := by
  refine sX6_count ⟨hF.1, fun I2 e2 => ?_⟩
  have h2 : RefD I2 q D := by rw [e2]; exact h.t0
  have hr2 : RefRun I2 q res ring cp mt := by rw [e2]; exact hr.t0
  have ho2 : offRef I I2 q := by rw [e2]; exact offRef.u (by omega)
  obtain ⟨-, -, -, -, -, -, r1, r2⟩ := id hr2
  refine ⟨fun z => ⟨?_, h2, hr2, ho2⟩, fun z => ⟨?_, h2, hr2, ho2⟩, fun z => ⟨?_, h2, hr2, ho2⟩, fun z => ⟨?_, h2, hr2, ho2⟩, fun z => ⟨?_, h2, hr2, ho2⟩, fun z => ⟨?_, h2, hr2, ho2⟩⟩
  · obtain ⟨z0, z1, z2, z3, z4⟩ := out4 z
    simp [fCount, z0, z1, z2, z3, z4]
  · rw [h2.1.1, z]; rfl
  · rw [h2.1.2.1, z]; rfl
  · rw [h2.1.2.2.1, z]; rfl
  · rw [r1, z]; rfl
  · rw [r2, z]; rfl
end REF2
