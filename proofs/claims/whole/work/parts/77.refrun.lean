/-! the reference: run -/
theorem addR_ok {D : Dt} {out : List It} {r : ResT} (ho : ∀ y ∈ out, okZ D y) (hr : ∀ y ∈ r.2.1, okZ D y) : ∀ y ∈ (addR out r).2.1, okZ D y := by
  unfold addR
  split
  · split
    · intro y hy
      rcases List.mem_append.mp hy with w | w
      · exact ho y w
      · exact hr y w
    · intro y hy; cases hy
  · intro y hy; cases hy
theorem addR_cp {out : List It} {r : ResT} : (addR out r).2.2 = r.2.2 := by
  unfold addR
  split
  · split <;> rfl
  · rfl
theorem cpOf_none {e : Int32} (h : cpOf e = none) : -1000 ≤ e ∨ e < -1060 := by
  unfold cpOf at h
  split at h
  · cases h
  · rename_i z
    by_cases h1 : e < -1000
    · exact Or.inr (Int32.not_le.mp (fun y => z ⟨h1, y⟩))
    · exact Or.inl (Int32.not_lt.mp h1)
theorem cpOf_some {e : Int32} {s : Nat} (h : cpOf e = some s) : ¬ -1000 ≤ e ∧ ¬ e < -1060 := by
  unfold cpOf at h
  split at h
  · rename_i z
    exact ⟨Int32.not_le.mpr z.1, Int32.not_lt.mpr z.2⟩
  · cases h
section RRUN
variable {p : Program} {l : Launch} {e : Env} {s : State} {m : MethodId} {args : Array Value} {below : List Frame} {meth : Method} {c : Code} {G : Gx} {d : Nat} {K N : TK} {I : TI} {R : TR} {L : TL} {sz q : Nat} {D : Dt} {φ : Int32 → TI → Prop}
/-- an entry of the top text is taken -/
theorem RunAt.next {I25 : TI} {stk : List FrT} {t i sn : Nat} {out : List It} {cp mt : Int32} (h : RunAt I q D (stk ++ [(t, i, sn, out)]) cp mt) (e25 : I25 = u2 I (q + 22) stk.length (nI (i + 1))) : RunAt I25 q D (stk ++ [(t, i + 1, sn, out)]) cp mt ∧ offRg I I25 q := by
  obtain ⟨hD, i27, i28, i29, i30, i31, hs⟩ := h
  have hfar : ∀ a, a ≠ q + 22 → I25 a = I a := fun a y => by rw [e25, u2_ne _ _ y]
  have hq : I25 q = I q := hfar q (by omega)
  have hrow : ∀ (k : Nat) (r : List It), RefRow I q k r → RefRow I25 q k r := fun k r hr => by
    refine ⟨by rw [hfar _ (by omega)]; exact hr.1, hr.2.1, fun j x hx => ?_⟩
    have := hr.2.2 j x hx
    unfold rfAt at this ⊢
    rw [hfar _ (by omega), hfar _ (by omega), hfar _ (by omega), hfar _ (by omega), hfar _ (by omega), hfar _ (by omega)]
    exact this
  refine ⟨⟨hD.mv (by rw [hq]) (by rw [hq]) (by rw [hq]) (fun c y1 y2 => hfar _ (by omega)), by rw [hq, i27]; simp, by rw [hq]; exact i28, by rw [hq]; exact i29, by rw [hq]; exact i30, by rw [hq]; exact i31, ?_⟩, fun a ha => hfar a (by omega), by rw [hq]⟩
  refine stkAt.snoc (fun k f hk => ?_) ?_
  · have hkl := (List.getElem?_eq_some_iff.mp hk).1
    obtain ⟨a1, a2, a3, a4⟩ := hs.left k f hk
    exact ⟨by rw [hfar _ (by omega)]; exact a1, by rw [e25, u2_nk _ _ (by omega)]; exact a2, by rw [hfar _ (by omega)]; exact a3, hrow k _ a4⟩
  · obtain ⟨a1, a2, a3, a4⟩ := hs.top
    exact ⟨by rw [hfar _ (by omega)]; exact a1, by rw [e25]; exact u2_self _ _ _ _, by rw [hfar _ (by omega)]; exact a3, hrow _ _ a4⟩
/-- the loop's head, at a text that has entries left or not -/
theorem run_head (C : Cx p s m args meth c (AM K sz) G RX6 cX6_run 6) (hr : meth.sig.returnType = (some .int)) {stk : List FrT} {t i sn : Nat} {out : List It} {cp mt : Int32} (hF : RefF K N R q) (h : RunAt I q D (stk ++ [(t, i, sn, out)]) cp mt) (hl : stk.length ≤ 12) (ht : t ≤ D.1.length) (hi : i ≤ (D.2.1 t).length)
    (hA : i = (D.2.1 t).length → (0 < stk.length → ∃ ψ : TI → Prop, MtV l G yX6_end cX6_end 5 none (d + 4) [.ref q] K N I R L sz ψ ∧ ∀ I' : TI, ψ I' → WI p l e s m args below meth c G (d + 5) φ K N R L sz 6 43 [(0, .ref q), (1, .int 0)] I') ∧ (stk.length = 0 → ∃ ψ : TI → Prop, MtV l G yX6_end cX6_end 5 none (d + 4) [.ref q] K N I R L sz ψ ∧ ∀ I' : TI, ψ I' → WI p l e s m args below meth c G (d + 5) φ K N R L sz 6 43 [(0, .ref q), (1, .int 1)] I'))
    (hB : ∀ e', (D.2.1 t)[i]? = some e' → ∀ I25 : TI, RunAt I25 q D (stk ++ [(t, i + 1, sn, out)]) cp mt → offRg I I25 q → (cpOf e' = none → ∃ ψ : Int32 → TI → Prop, MtI l G yX6_put cX6_put 9 (some .boolean) (d + 4) [.ref q, .int (nI stk.length), .int e', .int (nI t), .int (nI i), .int 0, .int 0, .int 0] K N I25 R L sz ψ ∧ ∀ (v : Int32) (I' : TI), ψ v I' → WI p l e s m args below meth c G (d + 5) φ K N R L sz 6 43 [(0, .ref q), (1, .int 0)] I') ∧ (∀ s', cpOf e' = some s' → ∃ ψ : TI → Prop, MtV l G yX6_copied cX6_copied 5 none (d + 4) [.ref q, .int (-1000 - e')] K N I25 R L sz ψ ∧ ∀ I' : TI, ψ I' → WI p l e s m args below meth c G (d + 5) φ K N R L sz 6 43 [(0, .ref q), (1, .int 0)] I')) :
    WI p l e s m args below meth c G (d + 5) φ K N R L sz 6 43 [(0, .ref q), (1, .int 0)] I := by
  obtain ⟨hD, i27, i28, i29, i30, i31, hs⟩ := id h
  have h12 := hD.1.2.2.2.1
  have f21 := hF.2 21 (by decide) (by decide)
  have f22 := hF.2 22 (by decide) (by decide)
  have f2 := hF.2 2 (by decide) (by decide)
  have f3 := hF.2 3 (by decide) (by decide)
  obtain ⟨a1, a2, a3, a4⟩ := hs.top
  have h27 : I q 27 = nI (stk.length + 1) := by rw [i27]; simp
  obtain ⟨t1, t2, t3⟩ := hD.2.2.1 t (by omega)
  have hin : vp_in (nI stk.length) 15 := vp_in_nI (by omega) (by decide)
  simp only at a1 a2 a3
  refine vX6_run_43 (d := d + 4) C hr ⟨fun z => absurd rfl z, fun _ => ⟨hF.1, fun z => absurd i28 z, fun _ => ⟨q + 21, f21.1, f21.2.1, by rw [f21.2.2, h27, nI_pred]; exact hin, q + 22, f22.1, f22.2.1, by rw [f22.2.2, h27, nI_pred]; exact hin, q + 2, f2.1, f2.2.1, ?_⟩⟩⟩
  rw [h27, nI_pred, nI_clamp (show stk.length < 2 ^ 31 by omega), a1, a2, nI_clamp (show t < 2 ^ 31 by omega), t1, nI_eq (by omega) (by omega), nI_200, nI_clamp (show 200 * t + i < 2 ^ 31 by omega), nI_1, show (1 : Int32) = nI 1 from rfl, nI_eq (show stk.length + 1 < 2 ^ 31 by omega) (by decide)]
  refine ⟨by rw [f2.2.2]; exact vp_in_nI (show t < 13 by omega) (by decide), fun z I25 e25 => ⟨q + 3, f3.1, f3.2.1, ?_⟩, fun z => ⟨fun y => (hA z).1 (by omega), fun y => (hA z).2 (by omega)⟩⟩
  obtain ⟨n1, n2⟩ := h.next e25
  have hil : i < (D.2.1 t).length := by omega
  have hgt := List.getElem?_eq_getElem hil
  have hv : I25 (q + 3) (200 * t + i) = (D.2.1 t)[i] := by
    rw [e25, u2_ne _ _ (by omega)]
    exact t3 i _ hgt
  rw [hv]
  have hB2 := hB _ hgt I25 n1 n2
  refine ⟨by rw [f3.2.2]; exact vp_in_nI (show 200 * t + i < 2600 by omega) (by decide), fun y => ?_, fun y => ⟨fun y2 => ?_, fun y2 => ?_⟩⟩
  · exact hB2.1 (by unfold cpOf; rw [if_neg (fun w => absurd w.1 (Int32.not_lt.mpr y))])
  · exact hB2.1 (by unfold cpOf; rw [if_neg (fun w => absurd y2 (Int32.not_lt.mpr w.2))])
  · exact hB2.2 _ (by unfold cpOf; rw [if_pos ⟨Int32.not_le.mp y, Int32.not_lt.mp y2⟩])
theorem sim (C : Cx p s m args meth c (AM K sz) G RX6 cX6_run 6) (hr : meth.sig.returnType = (some .int)) (hF : RefF K N R q) (hwf : WfD D) : ∀ (n : Nat) (es : List Int32) (stk : List FrT) (t sn i : Nat) (out : List It) (cp mt : Int32) (I : TI), n + stk.length = 13 → opOk D (stk.map (·.1) ++ [t]) → (D.2.1 t).drop i = es → i ≤ (D.2.1 t).length → (∀ y ∈ out, okZ D y) → cpOk cp → RunAt I q D (stk ++ [(t, i, sn, out)]) cp mt → (∀ I', offRg I I' q → ((entS (cpS D n (stk.map (·.1) ++ [t])) t i es out cp mt).1 = 0 → cpOk (entS (cpS D n (stk.map (·.1) ++ [t])) t i es out cp mt).2.2.1 → RunAt I' q D (stk ++ [(t, (D.2.1 t).length, sn, (entS (cpS D n (stk.map (·.1) ++ [t])) t i es out cp mt).2.1)]) (entS (cpS D n (stk.map (·.1) ++ [t])) t i es out cp mt).2.2.1 (entS (cpS D n (stk.map (·.1) ++ [t])) t i es out cp mt).2.2.2.1 → WI p l e s m args below meth c G (d + 5) φ K N R L sz 6 43 [(0, .ref q), (1, .int 0)] I') ∧ ((entS (cpS D n (stk.map (·.1) ++ [t])) t i es out cp mt).1 ≠ 0 → FltAt I' q D (entS (cpS D n (stk.map (·.1) ++ [t])) t i es out cp mt) → WI p l e s m args below meth c G (d + 5) φ K N R L sz 6 43 [(0, .ref q), (1, .int 0)] I')) → WI p l e s m args below meth c G (d + 5) φ K N R L sz 6 43 [(0, .ref q), (1, .int 0)] I := by
  intro n
  induction n with
  | zero =>
    intro es stk t sn i out cp mt I hn hop _ _ _ _ hR _
    exfalso
    have h12 := hR.1.1.2.2.2.1
    have := nd_le 13 _ hop.1 (fun u hu => by have := hop.2.1 u hu; omega)
    simp at this
    omega
  | succ n ihn =>
    intro es
    induction es with
    | nil =>
      intro stk t sn i out cp mt I hn hop hes hi ho hcp hR hφ
      have hil : i = (D.2.1 t).length := by
        have : (D.2.1 t).length ≤ i := by simpa using hes
        omega
      exact (hφ I offRg.rf).1 rfl hcp (by rw [← hil]; exact hR)
    | cons e' es ihe =>
      intro stk t sn i out cp mt I hn hop hes hi ho hcp hR hφ
      have h12 := hR.1.1.2.2.2.1
      have hl60 := hR.1.1.2.2.2.2.1
      have ht : t ≤ D.1.length := hop.2.1 t (by simp)
      have hil : i < (D.2.1 t).length := by
        apply Nat.lt_of_not_le; intro z
        rw [List.drop_eq_nil_of_le z] at hes; cases hes
      have hgt : (D.2.1 t)[i]? = some e' ∧ (D.2.1 t).drop (i + 1) = es := by
        have := List.drop_eq_getElem_cons hil
        rw [hes] at this
        injection this with h1 h2
        exact ⟨by rw [List.getElem?_eq_getElem hil, h1], h2.symm⟩
      refine run_head C hr hF hR (by omega) ht hi (fun z => absurd z (by omega)) (fun e2 he2 I25 h25 o25 => ?_)
      rw [hgt.1] at he2
      have he2 := Option.some.inj he2
      subst he2
      have hok : okE D e' := hwf.1 t e' (List.mem_of_getElem? hgt.1)
      refine ⟨fun hc => ?_, fun s' hc => ?_⟩
      · rw [entS_none hc] at hφ
        obtain ⟨hD, i27, i28, i29, i30, i31, hs⟩ := id h25
        have htop := hs.top
        have h300 := htop.2.2.2.2.1
        simp only at h300
        refine ⟨_, tX6_put hF (by omega) htop.2.2.2, fun v I' hv => ?_⟩
        rcases hv with ⟨hl, -, hoff, hrow⟩ | ⟨hl, -, rfl⟩
        · simp only at hl
          rw [if_pos hl] at hφ
          refine ihe stk t sn (i + 1) (out ++ [ownIt e' t i]) cp mt I' hn hop hgt.2 (by omega) (all_snoc ho (okE_none hl60 hok hc t i)) hcp ?_ (fun I2 hI2 => hφ I2 ((o25.tr (hoff.rg (fun z => z))).tr hI2))
          refine ⟨hoff.dat (fun k z => z.elim) hD, by rw [hoff.2.1 27 (fun z => z), i27]; simp, (hoff.2.1 28 (fun z => z)).trans i28, (hoff.2.1 29 (fun z => z)).trans i29, (hoff.2.1 30 (fun z => z)).trans i30, (hoff.2.1 31 (fun z => z)).trans i31, (hs.left.off hoff (fun k hk => by omega)).snoc ⟨?_, ?_, ?_, hrow⟩⟩
          · rw [hoff.1 _ (by omega) (by omega)]; exact htop.1
          · rw [hoff.1 _ (by omega) (by omega)]; exact htop.2.1
          · rw [hoff.1 _ (by omega) (by omega)]; exact htop.2.2.1
        · simp only at hl
          rw [if_neg (by omega)] at hφ
          have hI : offE I25 (u2 I25 q 28 (-3)) q (fun _ => False) (fun k => k = 28) := offE.fld rfl
          exact (hφ _ (o25.tr (hI.rg (by omega)))).2 (show ¬ (-3 : Int32) = 0 by decide) ⟨hI.dat (fun k z => by omega) hD, u2_self _ _ _ _, (hI.2.1 29 (by omega)).trans i29, (hI.2.1 30 (by omega)).trans i30, (hI.2.1 31 (by omega)).trans i31, by simp, ListAt.nil⟩
      · obtain ⟨st, hst, hcpy, hev⟩ := okE_some hl60 hok hc
        have hs60 := (List.getElem?_eq_some_iff.mp hst).1
        have hop2 : stk.map (·.1) ++ [t] = (stk ++ [(t, i + 1, sn, out)]).map (·.1) := by simp
        have hring := cpS_ring (D := D) (n + 1) (stk.map (·.1) ++ [t]) s' cp mt
        rw [entS_some hc hring] at hφ
        have hm1 : (-1000 : Int32) - e' = nI (s' + 1) := by
          rw [hev]
          have : ∀ n, n < 61 → (-1000 : Int32) - (-1000 - nI n) = nI n := by decide +kernel
          exact this (s' + 1) (by omega)
        rw [hm1]
        refine ⟨_, tX6_copied hF hop2 hop h25 hst hcp, fun I51 h51 => ?_⟩
        obtain ⟨o51, h51 | ⟨r, hr0, hrr, hfl⟩⟩ := h51
        · obtain ⟨t', hl100, hN, hnin, hR51⟩ := h51
          obtain ⟨ht0, ht'⟩ := tNm_le hN
          have hcS : cpS D (n + 1) (stk.map (·.1) ++ [t]) s' cp mt = cpM D st (entS (cpS D n ((stk.map (·.1) ++ [t]) ++ [t'])) t' 0 (D.2.1 t') [] (cp + 1) mt) := by
            conv => lhs; unfold cpS
            rw [if_pos hl100, hst]
            simp only [hN]
            rw [if_neg hnin]
          have hCok := cpS_ok hl60 hwf (n + 1) (stk.map (·.1) ++ [t]) s' cp mt
          rw [hcS] at hφ hCok
          have hEok := entS_ok hl60 (t := t') (cpS_ok hl60 hwf n ((stk.map (·.1) ++ [t]) ++ [t'])) 0 (D.2.1 t') [] (cp + 1) mt (hwf.1 t') (fun y hy => by cases hy)
          have hop3 : opOk D ((stk ++ [(t, i + 1, sn, out)]).map (·.1) ++ [t']) := by
            rw [← hop2]
            refine ⟨?_, fun u hu => ?_, ?_⟩
            · rw [List.nodup_append]
              refine ⟨hop.1, by simp, fun a ha b hb => ?_⟩
              simp at hb
              exact fun z => hnin (by rw [← hb, ← z]; exact ha)
            · rcases List.mem_append.mp hu with w | w
              · exact hop.2.1 u w
              · simp at w; omega
            · rw [List.getElem?_append_left (List.getElem?_eq_some_iff.mp hop.2.2).1]; exact hop.2.2
          refine ihn (D.2.1 t') (stk ++ [(t, i + 1, sn, out)]) t' (s' + 1) 0 [] (cp + 1) mt I51 (by simp; omega) hop3 (by rw [List.drop_zero]) (Nat.zero_le _) (fun y hy => by cases hy) (hcp.up hl100) hR51 (fun I' hI' => ?_)
          rw [← hop2]
          generalize hEq : entS (cpS D n ((stk.map (·.1) ++ [t]) ++ [t'])) t' 0 (D.2.1 t') [] (cp + 1) mt = E at *
          refine ⟨fun z hcpE hR' => ?_, fun z hfl => ?_⟩
          · have hl13 : stk.length + 1 ≤ 12 := by
              have := nd_le 13 _ hop3.1 (fun u hu => by have := hop3.2.1 u hu; omega)
              simp at this; omega
            have hcM : cpM D st E = cpE st E.2.2.1 (matchS D st.2.2.2 E.2.1.length E.2.1 [] E.2.2.2.1) := by unfold cpM; rw [if_pos z]
            refine run_head C hr hF hR' (by simp; omega) ht' (Nat.le_refl _) (fun _ => ⟨fun _ => ⟨_, tX6_end hF hwf hR' (by omega) hst (fun y hy => (hEok y hy).1), fun I60 h60 => ?_⟩, fun y => absurd y (by simp)⟩) (fun e2 he2 => absurd (List.getElem?_eq_some_iff.mp he2).1 (by omega))
            rw [← hcM] at h60
            obtain ⟨o60, k1, k2⟩ := h60
            have oall := ((o25.tr o51).tr hI').tr o60
            have hadd := addR_ok ho hCok
            have hacp : (addR out (cpM D st E)).1 = 0 → cpOk (addR out (cpM D st E)).2.2.1 := fun _ => by
              rw [addR_cp, hcM]
              unfold cpE
              split <;> exact hcpE
            simp only at k1 k2
            generalize addR out (cpM D st E) = r at *
            by_cases hz : r.1 = 0
            · rw [if_pos hz] at hφ
              exact ihe stk t sn (i + 1) r.2.1 r.2.2.1 r.2.2.2.1 I60 hn hop hgt.2 (by omega) hadd (hacp hz) (k1 hz) (fun I2 hI2 => hφ I2 (oall.tr hI2))
            · rw [if_neg hz] at hφ
              exact (hφ I60 oall).2 hz (k2 hz)
          · have hcM : cpM D st E = E := by unfold cpM; rw [if_neg z]
            have hA : addR out (cpM D st E) = (E.1, [], E.2.2) := by rw [hcM]; unfold addR; rw [if_neg z]
            rw [hA, if_neg z] at hφ
            exact (hφ I' ((o25.tr o51).tr hI')).2 z hfl
        · rw [hrr n] at hφ
          have hA : addR out r = (r.1, [], r.2.2) := by unfold addR; rw [if_neg hr0]
          rw [hA, if_neg hr0] at hφ
          exact (hφ I51 (o25.tr o51)).2 hr0 hfl
end RRUN
