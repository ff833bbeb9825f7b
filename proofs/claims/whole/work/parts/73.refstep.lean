/-! the reference: a step of matching -/
def psOf (D : Dt) (sn : Nat) : List Nat := if sn = 0 then [] else phS D (sn - 1)
def fS (k : Nat) : Prop := k = 28 ∨ k = 30
/-- what a step of matching leaves -/
def AftQ (q r en : Nat) (st : StpT) (I : TI) (v : Int32) (I' : TI) : Prop := offE I I' q (· = 14) fS ∧ v = (if st.1 = 0 then nI (302 * r + (en - st.2.1.length)) else 0) ∧ I' q 30 = st.2.2.2 ∧ I' q 28 = st.1 ∧ (st.1 = 0 → RefRow I' q 14 st.2.2.1)
theorem RefD.ps {I : TI} {q : Nat} {D : Dt} (h : RefD I q D) {sn : Nat} (hs : sn ≤ 60) : I (q + 5) sn = nI (psOf D sn).length ∧ (psOf D sn).length ≤ 8 ∧ ∀ (j p : Nat), (psOf D sn)[j]? = some p → I (q + 6) (8 * sn - 8 + j) = nI (p + 1) := by
  unfold psOf
  obtain ⟨-, h2, h3⟩ := h.2.2.2.1
  split
  · rename_i z
    subst z
    exact ⟨h3, by simp, fun j p hp => by simp at hp⟩
  · rename_i z
    obtain ⟨s, rfl⟩ : ∃ s, sn = s + 1 := ⟨sn - 1, by omega⟩
    obtain ⟨a, b, c⟩ := h2 s (by omega)
    refine ⟨a, b, fun j p hp => ?_⟩
    rw [show 8 * (s + 1) - 8 + j = 8 * s + j by omega]
    exact c j p hp
theorem psOf_mem {D : Dt} (hwf : WfD D) {sn p : Nat} (h : p ∈ psOf D sn) : ∃ ph, D.2.2.2[p]? = some ph := by
  unfold psOf at h
  split at h
  · cases h
  · unfold phS at h
    cases hst : D.2.2.1[sn - 1]? with
    | none => rw [hst] at h; cases h
    | some st =>
      rw [hst] at h
      have h2 : p ∈ st.2.2.2 := h
      have := hwf.2.1 st (List.mem_of_getElem? hst) p h2
      exact ⟨_, List.getElem?_eq_getElem this⟩
section RSTEP
variable {p : Program} {l : Launch} {e : Env} {s : State} {m : MethodId} {args : Array Value} {below : List Frame} {meth : Method} {c : Code} {G : Gx} {d : Nat} {K N : TK} {I : TI} {R : TR} {L : TL} {sz q : Nat} {D : Dt} {φ : Int32 → TI → Prop}
theorem step81 (C : Cx p s m args meth c (AM K sz) G RX6 cX6_step 9) (hr : meth.sig.returnType = (some .int)) {r i pn : Nat} {ph : Phr} {t : List It} {x : It} {nx : Int32} (hF : RefF K N R q) (hr13 : r ≤ 13) (hph : D.2.2.2[pn]? = some ph) (hx : t[i]? = some x) :
    ∀ (k f : Nat) (out : List It) (I : TI), k + f = ph.2.2.length → RefD I q D → RefRow I q r t → RefRow I q 14 out → (∀ I', offE I I' q (· = 14) (fun k => k = 28) → (∀ o', pushs x pn (ph.2.2.drop f) out = some o' → RefRow I' q 14 o' → I' q 28 = I q 28 → φ nx I') ∧ (pushs x pn (ph.2.2.drop f) out = none → I' q 28 = -3 → φ 0 I')) → WI p l e s m args below meth c G (d + 2) φ K N R L sz 9 81 [(0, .ref q), (2, .int (nI (302 * r + i))), (4, .int 14), (6, .int (nI (pn + 1))), (7, .int nx), (8, .int (nI f))] I
  | 0, f, out, I, hk, hD, ht, ho, h => by
    have hpn : pn < 100 := by have := (List.getElem?_eq_some_iff.mp hph).1; have := hD.1.2.2.2.2.2; omega
    obtain ⟨t1, t2, t3⟩ := hD.2.2.2.2.2 pn hpn
    have hto : toS D pn = ph.2.2 := by unfold toS; rw [hph]; rfl
    rw [hto] at t1 t2 t3
    have f11 := hF.2 11 (by decide) (by decide)
    refine vX6_step_81 (d := d + 1) C hr ⟨hF.1, q + 11, f11.1, f11.2.1, by rw [f11.2.2]; exact vp_in_nI (show pn + 1 < 101 by omega) (by decide), ?_⟩
    rw [nI_clamp (by omega), t1]
    refine ⟨fun _ => ?_, fun z => absurd (nI_le (by omega) (by omega)) z⟩
    refine (h I offE.rf).1 out ?_ ho rfl
    rw [List.drop_eq_nil_of_le (by omega)]; rfl
  | k + 1, f, out, I, hk, hD, ht, ho, h => by
    have h3 := ht.2.1
    have hi := (List.getElem?_eq_some_iff.mp hx).1
    have hpn : pn < 100 := by have := (List.getElem?_eq_some_iff.mp hph).1; have := hD.1.2.2.2.2.2; omega
    obtain ⟨t1, t2, t3⟩ := hD.2.2.2.2.2 pn hpn
    have hto : toS D pn = ph.2.2 := by unfold toS; rw [hph]; rfl
    rw [hto] at t1 t2 t3
    have hfl : f < ph.2.2.length := by omega
    have hd := List.drop_eq_getElem_cons hfl
    have f11 := hF.2 11 (by decide) (by decide)
    have f13 := hF.2 13 (by decide) (by decide)
    have f15 := hF.2 15 (by decide) (by decide)
    have f16 := hF.2 16 (by decide) (by decide)
    have f18 := hF.2 18 (by decide) (by decide)
    have f19 := hF.2 19 (by decide) (by decide)
    have hin : vp_in (nI (302 * r + i)) 4530 := vp_in_nI (by omega) (by decide)
    obtain ⟨e1, e2, e3, e4, e5, e6⟩ := ht.2.2 i x hx
    have hv : I (q + 13) (10 * pn + f) = ph.2.2[f] := t3 f _ (List.getElem?_eq_getElem hfl)
    refine vX6_step_81 (d := d + 1) C hr ⟨hF.1, q + 11, f11.1, f11.2.1, by rw [f11.2.2]; exact vp_in_nI (show pn + 1 < 101 by omega) (by decide), ?_⟩
    rw [nI_clamp (by omega), t1]
    refine ⟨fun z => absurd z (nI_ge (by omega) (by omega)), fun _ => ⟨q + 13, f13.1, f13.2.1, by rw [nI_10, f13.2.2]; exact vp_in_nI (show 10 * pn + f < 1010 by omega) (by decide), q + 15, f15.1, f15.2.1, by rw [f15.2.2]; exact hin, q + 16, f16.1, f16.2.1, by rw [f16.2.2]; exact hin, q + 18, f18.1, f18.2.1, by rw [f18.2.2]; exact hin, q + 19, f19.1, f19.2.1, by rw [f19.2.2]; exact hin, ?_⟩⟩
    rw [nI_10, nI_clamp (show 10 * pn + f < 2 ^ 31 by omega), nI_clamp (show 302 * r + i < 2 ^ 31 by omega), hv, e2, e3, e5, e6]
    refine ⟨_, tX6_put (r := 14) hF (Nat.le_refl _) ho, fun r28 I29 h28 => ?_⟩
    rw [hd] at h
    unfold pushs at h
    rcases h28 with ⟨hn, rfl, hoff, hrow⟩ | ⟨hn, rfl, rfl⟩
    · refine ⟨fun _ => ?_, fun z => absurd z (by decide)⟩
      rw [if_pos hn] at h
      rw [nI_1]
      have hoff' : offE I I29 q (· = 14) (fun k => k = 28) := hoff.mono (fun _ z => z) (fun _ z => z.elim)
      have e28 : I29 q 28 = I q 28 := hoff.2.1 28 (fun z => z)
      refine step81 C hr hF hr13 hph hx k (f + 1) (out ++ [putIt x (ph.2.2[f]'hfl) pn]) I29 (by omega) (hoff'.dat (fun k z => by omega) hD) (hoff'.row (by omega) ht) hrow (fun I' hI => ?_)
      have h5 := h I' (hoff'.tr hI)
      rw [e28]
      exact h5
    · refine ⟨fun z => absurd rfl z, fun _ => ?_⟩
      rw [if_neg (by omega)] at h
      exact (h _ (offE.fld rfl)).2 rfl (u2_self _ _ _ _)
theorem step3 (C : Cx p s m args meth c (AM K sz) G RX6 cX6_step 9) (hr : meth.sig.returnType = (some .int)) {r i en sn : Nat} {t out : List It} {x : It} (hF : RefF K N R q) (hD : RefD I q D) (hwf : WfD D) (hsn : sn ≤ 60) (hr13 : r ≤ 13) (ht : RefRow I q r t) (ho : RefRow I q 14 out) (he : en ≤ t.length) (hi : i < en) (hx : t[i]? = some x) (hpos : 0 < x.1) (hw : wd x.1 = true) (h28 : I q 28 = 0) :
    ∀ (k j : Nat), k + j = (psOf D sn).length → (∀ v I', AftQ q r en (stepR D (tryL D ((psOf D sn).drop j) (seg t i en)) x (seg t (i + 1) en) out (I q 30)) I v I' → φ v I') → WI p l e s m args below meth c G (d + 2) φ K N R L sz 9 3 [(0, .ref q), (1, .int (nI sn)), (2, .int (nI (302 * r + i))), (3, .int (nI (302 * r + en))), (4, .int 14), (5, .int (nI j))] I
  | 0, j, hk, hφ => by
    have h3 := ht.2.1
    obtain ⟨s1, s2, s3⟩ := hD.ps hsn
    have f5 := hF.2 5 (by decide) (by decide)
    rw [List.drop_eq_nil_of_le (by omega)] at hφ
    refine vX6_step_3 (d := d + 1) C hr ⟨hF.1, q + 5, f5.1, f5.2.1, by rw [f5.2.2]; exact vp_in_nI (show sn < 61 by omega) (by decide), ?_⟩
    rw [nI_clamp (by omega), s1]
    refine ⟨fun _ => ⟨_, tX6_again (r := 14) hF (Nat.le_refl _) ho (by omega) ht hx, fun r8 I9 h8 => ?_⟩, fun z => absurd (nI_le (by omega) (by omega)) z⟩
    unfold tryL stepR at hφ
    rcases h8 with ⟨hn, rfl, hoff, hrow⟩ | ⟨hn, rfl, rfl⟩
    · refine ⟨fun z => absurd z (by decide), fun _ => hφ _ _ ?_⟩
      simp only [hn, if_true]
      refine ⟨hoff.mono (fun _ z => z) (fun _ z => z.elim), ?_, hoff.2.1 30 (fun z => z), (hoff.2.1 28 (fun z => z)).trans h28, fun _ => hrow⟩
      simp only [if_true, seg_len he]
      rw [nI_1]
      congr 1
      omega
    · refine ⟨fun _ => hφ _ _ ?_, fun z => absurd rfl z⟩
      simp only [show ¬ out.length < 300 by omega, if_false]
      exact ⟨offE.fld (Or.inl rfl), by rw [if_neg (show ¬ (-3 : Int32) = 0 by decide)], u2_nk _ _ (by decide), u2_self _ _ _ _, fun z => absurd z (show ¬ (-3 : Int32) = 0 by decide)⟩
  | k + 1, j, hk, hφ => by
    have h3 := ht.2.1
    obtain ⟨s1, s2, s3⟩ := hD.ps hsn
    have f5 := hF.2 5 (by decide) (by decide)
    have f6 := hF.2 6 (by decide) (by decide)
    have f9 := hF.2 9 (by decide) (by decide)
    have f14 := hF.2 14 (by decide) (by decide)
    have f15 := hF.2 15 (by decide) (by decide)
    have f16 := hF.2 16 (by decide) (by decide)
    have f18 := hF.2 18 (by decide) (by decide)
    have f19 := hF.2 19 (by decide) (by decide)
    have hin : vp_in (nI (302 * r + i)) 4530 := vp_in_nI (by omega) (by decide)
    obtain ⟨e1, e2, e3, e4, e5, e6⟩ := ht.2.2 i x hx
    have hjl : j < (psOf D sn).length := by omega
    have hsn0 : 0 < sn := by
      apply Nat.pos_of_ne_zero; intro z
      rw [z] at hjl; simp [psOf] at hjl
    have hd := List.drop_eq_getElem_cons hjl
    have hpv := s3 j _ (List.getElem?_eq_getElem hjl)
    obtain ⟨ph, hph⟩ := psOf_mem hwf (List.getElem_mem hjl)
    generalize (psOf D sn)[j] = pn at *
    have hpn : pn < 100 := by have := (List.getElem?_eq_some_iff.mp hph).1; have := hD.1.2.2.2.2.2; omega
    have hokp : okP ph := hwf.2.2.1 ph (List.mem_of_getElem? hph)
    obtain ⟨p1, p2, p3, p4⟩ := hD.2.2.2.2.1 pn ph hph
    rw [hd] at hφ
    unfold tryL at hφ
    rw [hph] at hφ
    simp only at hφ
    have h8e : (8 : Int32) * nI sn - 8 + nI j = nI (8 * sn - 8 + j) := by rw [show (8 : Int32) = nI 8 from rfl, pk_mul, pk_sub (by omega), nI_add]
    refine vX6_step_3 (d := d + 1) C hr ⟨hF.1, q + 5, f5.1, f5.2.1, by rw [f5.2.2]; exact vp_in_nI (show sn < 61 by omega) (by decide), ?_⟩
    rw [nI_clamp (show sn < 2 ^ 31 by omega), s1]
    refine ⟨fun z => absurd z (nI_ge hjl (by omega)), fun _ => ⟨q + 14, f14.1, f14.2.1, by rw [f14.2.2]; exact hin, ?_⟩⟩
    rw [nI_clamp (show 302 * r + i < 2 ^ 31 by omega), e1, h8e, nI_clamp (show 8 * sn - 8 + j < 2 ^ 31 by omega)]
    refine ⟨fun z => absurd hpos (Int32.not_lt.mpr z), fun _ => ⟨q + 6, f6.1, f6.2.1, by rw [f6.2.2]; exact vp_in_nI (show 8 * sn - 8 + j < 488 by omega) (by decide), q + 9, f9.1, f9.2.1, by rw [hpv, f9.2.2]; exact vp_in_nI (show pn + 1 < 101 by omega) (by decide), ?_⟩⟩
    rw [hpv, nI_clamp (show pn + 1 < 2 ^ 31 by omega), p1, nI_1]
    refine ⟨fun z => ?_, fun z => ⟨_, tX6_behind hF hD hph (by omega) ht he hi hx hpos, fun r108 I109 h108 => ?_⟩⟩
    · obtain ⟨m0, part, g1, g2, g3⟩ := part_word hokp z
      obtain ⟨n, w0, w1, w2, w3⟩ := wd_spec hw
      have g4 := okx_lt _ _ g2
      have g5 : (27 : Nat) ^ (m0 + 1) ≤ 387420489 := pw_lt (by omega)
      have g6 : (387420489 : Nat) = 27 ^ 6 := by decide
      have hh : hd0 ph.2.1 = part := by rw [g3]; exact nI_clamp (by omega)
      have hc : x.1.toNatClampNeg = n := by rw [w2]; exact nI_clamp (by omega)
      have hpM : phM ph (seg t i en) = if hasN ph.1 part n then some (seg t (i + 1) en) else none := by
        simp only [phM, z, if_false, seg_cons hi hx, hh, hc]
      rw [w2]
      refine ⟨_, tX6_hasPart hF hD hph g3 w1 (by omega), fun r38 I39 h38 => ?_⟩
      obtain ⟨rfl, h38⟩ := h38
      obtain rfl := h38.symm
      refine ⟨fun z2 => fun I45 e45 => ?_, fun z2 => ?_⟩
      · rw [b2i_ne0] at z2
        have hh2 : hasN ph.1 (hd0 ph.2.1) x.1.toNatClampNeg = true := by rw [hh, hc]; exact z2
        have hlt : nlF 6 part < nlF 6 n := by
          have z3 := z2
          unfold hasN at z3
          simp only [Bool.and_eq_true, decide_eq_true_eq] at z3
          exact z3.1
        have hto : ((ph.2.2 = [] ∧ hd0 ph.2.2 = 0) ∨ ph.2.2 = [nI (hd0 ph.2.2)]) ∧ hd0 ph.2.2 < 27 ^ 6 := by
          rcases to_word hokp z with ⟨q1, q2⟩ | ⟨y, zz, q1, q2, q3, q4⟩
          · exact ⟨Or.inl ⟨q1, q2⟩, by rw [q2]; decide⟩
          · refine ⟨Or.inr (by rw [q4]; exact q3), ?_⟩
            have z1 := okx_lt _ _ q2
            have z2 : (27 : Nat) ^ (y + 1) ≤ 387420489 := pw_lt (by omega)
            rw [q4]; omega
        rw [hpM, if_pos z2] at hφ
        simp only [stepR, hph] at hφ
        have o45 : offE I I45 q (· = 14) fS := by rw [e45]; exact offE.fld (Or.inr rfl)
        have i30 : I45 q 30 = I q 30 + 1 := by rw [e45]; exact u2_self _ _ _ _
        have i28 : I45 q 28 = 0 := by rw [e45, u2_nk _ _ (by decide)]; exact h28
        have hD45 : RefD I45 q D := o45.dat (fun k y => by unfold fS at y; omega) hD
        have hne14 : ¬ r = 14 := by omega
        have ht45 : RefRow I45 q r t := o45.row hne14 ht
        have ho45 : RefRow I45 q 14 out := by
          have : offE I I45 q (fun _ => False) fS := by rw [e45]; exact offE.fld (Or.inr rfl)
          exact this.row (fun z => z) ho
        obtain ⟨d1, d2, d3, d4, d5, d6⟩ := ht45.2.2 i x hx
        rw [d1, w2]
        refine ⟨_, tX6_changed hF hD45 hph g3 hto.1 w1 (by omega) hto.2 hlt, fun r48 I49 h48 => ?_⟩
        obtain ⟨h48, h48b⟩ := h48
        obtain rfl := h48b.symm
        have hpl : putL ph pn x out = (match chg ph.1 part (hd0 ph.2.2) n with
          | none => (-5, out)
          | some c => if out.length < 300 then (0, out ++ [putIt x (nI c) pn]) else (-3, out)) := by
          unfold putL; rw [if_neg z, hh, hc]; cases chg ph.1 part (hd0 ph.2.2) n <;> rfl
        rw [hpl] at hφ
        rw [h48]
        cases hm : chg ph.1 part (hd0 ph.2.2) n with
        | none =>
          rw [hm] at hφ
          refine ⟨fun y => absurd rfl y, fun _ => fun I80 e80 => ⟨fun _ => hφ _ _ ?_, fun y => absurd (by decide) y⟩⟩
          refine ⟨o45.tr (by rw [e80]; exact offE.fld (Or.inl rfl)), by rw [if_neg (show ¬ (-5 : Int32) = 0 by decide)], ?_, by rw [e80]; exact u2_self _ _ _ _, fun y => absurd y (show ¬ (-5 : Int32) = 0 by decide)⟩
          rw [e80, u2_nk _ _ (by decide)]; exact i30
        | some cc =>
          rw [hm] at hφ
          simp only at hφ ⊢
          have hcw := chg_word hokp z hw hh2 (c := cc) (by rw [hh, hc]; exact hm)
          have hcp : 0 < cc := by
            obtain ⟨y0, y1, y2, y3, y4⟩ := wd_spec hcw.1
            have := pw_lt (k := 6) (by decide)
            rw [nI_eq hcw.2 (by omega)] at y3
            omega
          refine ⟨fun _ => ⟨fun y => absurd y (by rw [nI_le0 hcw.2]; omega), fun _ => ⟨q + 15, f15.1, f15.2.1, by rw [f15.2.2]; exact hin, q + 16, f16.1, f16.2.1, by rw [f16.2.2]; exact hin, q + 18, f18.1, f18.2.1, by rw [f18.2.2]; exact hin, q + 19, f19.1, f19.2.1, by rw [f19.2.2]; exact hin, ?_⟩⟩, fun y => absurd y (by rw [nI_eq0 hcw.2]; omega)⟩
          rw [d2, d3, d5, d6]
          refine ⟨_, tX6_put (r := 14) hF (Nat.le_refl _) ho45, fun r73 I74 h73 => ?_⟩
          rcases h73 with ⟨hn, rfl, hoff, hrow⟩ | ⟨hn, rfl, rfl⟩
          · refine ⟨fun y => absurd y (by decide), fun _ => hφ _ _ ?_⟩
            simp only [hn, if_true]
            refine ⟨o45.tr (hoff.mono (fun _ z => z) (fun _ z => z.elim)), ?_, (hoff.2.1 30 (fun z => z)).trans i30, (hoff.2.1 28 (fun z => z)).trans i28, fun _ => hrow⟩
            simp only [if_true, seg_len he]
            congr 1
            omega
          · refine ⟨fun _ => hφ _ _ ?_, fun y => absurd rfl y⟩
            simp only [show ¬ out.length < 300 by omega, if_false]
            exact ⟨o45.tr (offE.fld (Or.inl rfl)), by rw [if_neg (show ¬ (-3 : Int32) = 0 by decide)], by rw [u2_nk _ _ (by decide)]; exact i30, u2_self _ _ _ _, fun z => absurd z (show ¬ (-3 : Int32) = 0 by decide)⟩
      · rw [b2i_eq0] at z2
        rw [hpM, if_neg (by rw [z2]; decide)] at hφ
        rw [nI_1]
        exact step3 C hr hF hD hwf hsn hr13 ht ho he hi hx hpos hw h28 k (j + 1) (by omega) hφ
    · obtain ⟨rfl, h108⟩ := h108
      obtain rfl := h108.symm
      have hpM : phM ph (seg t i en) = behT ph.2.1 (seg t i en) := by unfold phM; rw [if_pos z]
      rw [hpM] at hφ
      cases hm : behT ph.2.1 (seg t i en) with
      | none =>
        simp only [hm] at hφ
        refine ⟨fun y => absurd rfl y, fun _ => ?_⟩
        rw [nI_1]
        exact step3 C hr hF hD hwf hsn hr13 ht ho he hi hx hpos hw h28 k (j + 1) (by omega) hφ
      | some rr =>
        simp only [hm] at hφ
        simp only [bhR]
        have hlt := (phM_lt hokp (hpM.trans hm)).1
        rw [seg_len he] at hlt
        refine ⟨fun _ => fun I115 e115 => ?_, fun y => absurd y (by rw [nI_eq0 (by omega)]; omega)⟩
        simp only [stepR, hph] at hφ
        have o115 : offE I I115 q (· = 14) fS := by rw [e115]; exact offE.fld (Or.inr rfl)
        have i30 : I115 q 30 = I q 30 + 1 := by rw [e115]; exact u2_self _ _ _ _
        have i28 : I115 q 28 = 0 := by rw [e115, u2_nk _ _ (by decide)]; exact h28
        have hD115 : RefD I115 q D := o115.dat (fun k y => by unfold fS at y; omega) hD
        have hne14 : ¬ r = 14 := by omega
        have ho115 : RefRow I115 q 14 out := by
          have : offE I I115 q (fun _ => False) fS := by rw [e115]; exact offE.fld (Or.inr rfl)
          exact this.row (fun z => z) ho
        have hpl : putL ph pn x out = (match pushs x pn ph.2.2 out with
          | some o => (0, o)
          | none => (-3, out)) := by unfold putL; rw [if_pos z]; cases pushs x pn ph.2.2 out <;> rfl
        rw [hpl] at hφ
        refine step81 C hr hF hr13 hph hx ph.2.2.length 0 out I115 (by omega) hD115 (o115.row hne14 ht) ho115 (fun I' hI => ?_)
        rw [List.drop_zero]
        have hoff : offE I I' q (· = 14) fS := o115.tr (hI.mono (fun _ z => z) (fun _ z => Or.inl z))
        have i30' : I' q 30 = I q 30 + 1 := (hI.2.1 30 (by decide)).trans i30
        refine ⟨fun o' h1 h2 h3' => hφ _ _ ?_, fun h1 h2 => hφ _ _ ?_⟩
        · rw [h1]
          exact ⟨hoff, by rw [if_pos rfl], i30', h3'.trans i28, fun _ => h2⟩
        · rw [h1]
          exact ⟨hoff, by rw [if_neg (show ¬ (-3 : Int32) = 0 by decide)], i30', h2, fun z => absurd z (show ¬ (-3 : Int32) = 0 by decide)⟩
theorem tX6_step {r i en sn : Nat} {t out : List It} {x : It} (hF : RefF K N R q) (hD : RefD I q D) (hwf : WfD D) (hsn : sn ≤ 60) (hr13 : r ≤ 13) (ht : RefRow I q r t) (ho : RefRow I q 14 out) (he : en ≤ t.length) (hi : i < en) (hx : t[i]? = some x) (hw : okR D x) (h28 : I q 28 = 0) : MtI l G yX6_step cX6_step 9 (some .int) (d + 2) [.ref q, .int (nI sn), .int (nI (302 * r + i)), .int (nI (302 * r + en)), .int 14] K N I R L sz (AftQ q r en (stepS D (psOf D sn) x (seg t (i + 1) en) out (I q 30)) I) := by
  have h3 := ht.2.1
  refine sX6_step (d := d + 1) (fun p e s m args below meth c C hr => ?_)
  by_cases hpos : 0 < x.1
  · refine step3 C hr hF hD hwf hsn hr13 ht ho he hi hx hpos (hw.wd hD.1.2.2.2.2.1 hpos) h28 (psOf D sn).length 0 (by omega) (fun v I' hv => ?_)
    unfold stepS
    rw [if_pos hpos, ← seg_cons hi hx]
    rw [List.drop_zero] at hv
    exact hv
  · obtain ⟨s1, s2, s3⟩ := hD.ps hsn
    have f5 := hF.2 5 (by decide) (by decide)
    have f14 := hF.2 14 (by decide) (by decide)
    have hin : vp_in (nI (302 * r + i)) 4530 := vp_in_nI (by omega) (by decide)
    have e1 := (ht.2.2 i x hx).1
    have hle : x.1 ≤ 0 := Int32.not_lt.mp hpos
    have key : ∃ φ6 : Int32 → TI → Prop, MtI l G yX6_again cX6_again 3 (some .boolean) (d + 1) [.ref q, .int 14, .int (nI (302 * r + i))] K N I R L sz φ6 ∧ ∀ (r8 : Int32) (I9 : TI), φ6 r8 I9 → ((r8 = 0 → AftQ q r en (stepS D (psOf D sn) x (seg t (i + 1) en) out (I q 30)) I 0 I9) ∧ (¬ r8 = 0 → AftQ q r en (stepS D (psOf D sn) x (seg t (i + 1) en) out (I q 30)) I (nI (302 * r + i) + 1) I9)) := by
      refine ⟨_, tX6_again (r := 14) hF (Nat.le_refl _) ho (by omega) ht hx, fun r8 I9 h8 => ?_⟩
      unfold stepS
      rw [if_neg hpos]
      unfold stepR
      rcases h8 with ⟨hn, rfl, hoff, hrow⟩ | ⟨hn, rfl, rfl⟩
      · refine ⟨fun z => absurd z (by decide), fun _ => ?_⟩
        simp only [hn, if_true]
        refine ⟨hoff.mono (fun _ z => z) (fun _ z => z.elim), ?_, hoff.2.1 30 (fun z => z), (hoff.2.1 28 (fun z => z)).trans h28, fun _ => hrow⟩
        simp only [if_true, seg_len he]
        rw [nI_1]
        congr 1
        omega
      · refine ⟨fun _ => ?_, fun z => absurd rfl z⟩
        simp only [show ¬ out.length < 300 by omega, if_false]
        exact ⟨offE.fld (Or.inl rfl), by rw [if_neg (show ¬ (-3 : Int32) = 0 by decide)], u2_nk _ _ (by decide), u2_self _ _ _ _, fun z => absurd z (show ¬ (-3 : Int32) = 0 by decide)⟩
    refine vX6_step_3 (d := d + 1) C hr ⟨hF.1, q + 5, f5.1, f5.2.1, by rw [f5.2.2]; exact vp_in_nI (show sn < 61 by omega) (by decide), ?_⟩
    refine ⟨fun _ => key, fun _ => ⟨q + 14, f14.1, f14.2.1, by rw [f14.2.2]; exact hin, ?_⟩⟩
    rw [nI_clamp (show 302 * r + i < 2 ^ 31 by omega), e1]
    exact ⟨fun _ => key, fun z => absurd hle z⟩
end RSTEP
