/-! the class: copies -/
theorem seg_all {t : List It} {n : Nat} (h : n = t.length) : seg t 0 n = t := by
  unfold seg; rw [h, List.take_length, List.drop_zero]
theorem dw_nil {t : Nat} : ∀ l : List Nat, t ∉ l → l.dropWhile (fun u => u != t) = []
  | [], _ => rfl
  | u :: l, h => by
    have h1 : ¬ u = t := fun q => h (by rw [q]; exact List.mem_cons_self)
    rw [List.dropWhile_cons_of_pos (by simp [h1])]
    exact dw_nil l (fun q => h (List.mem_cons_of_mem _ q))
section COPY
variable {l : Launch} {G : Gx} {d : Nat} {K N : TK} {I : TI} {R : TR} {L : TL} {sz : Nat} {o : Nat} {tx sa pa : Nat → Nat} {D : Dt}
theorem ring_nil {I I' : TI} (h : RingAt I o []) (he : I' o 10 = I o 10) : RingAt I' o [] := ⟨by rw [he]; exact h.1, h.2.1, ListAt.nil⟩
theorem add_zero : HAdd l G K N L sz o tx sa pa D 0 := by
  intro dd op t s st q out I R hdd hno hnd hop h ho hg hst hcp hw
  exfalso
  have h12 := h.2.1.2.2.2.1
  have := nd_le 13 (op ++ [t]) hnd (fun u hu => by have := hop u hu; omega)
  simp at this
  omega
theorem add_of_mak {n : Nat} (hwf : WfD D) (hM : HMak l G K N L sz o tx sa pa D n) : HAdd l G K N L sz o tx sa pa D (n + 1) := by
  intro dd op t s st q out I R hdd hno hnd hop h ho hg hst hcp hw
  obtain ⟨dd, rfl⟩ : ∃ d', dd = d' + 7 := ⟨dd - 7, by omega⟩
  have ht : t ≤ D.1.length := hop t (by simp)
  have hl60 := h.2.1.2.2.2.2.1
  have hs60 := (List.getElem?_eq_some_iff.mp hst).1
  obtain ⟨b1, b2, b3⟩ := h.2.2.1 t ht
  have hlo := (h.2.2.2.2.2.tx_lo ht).1
  have h12 := h.2.1.2.2.2.1
  have hnt : t ∉ op := fun z => by
    have := List.nodup_append.mp hnd
    exact this.2.2 t z t (by simp) rfl
  have hl13 : op.length + 1 ≤ 13 := by
    have := nd_le 13 (op ++ [t]) hnd (fun u hu => by have := hop u hu; omega)
    simpa using this
  obtain ⟨c1, c2, c3⟩ := h.2.2.2.1 s st hst
  have h300 := hw.2.1
  rw [List.length_map] at h300
  refine sX5_addCopy (d := dd + 6) ⟨h.1.1, fun z => ?_, fun z => ?_⟩
  · intro I2 e2
    have hcS : ∀ r, (match tNm D st.2.1 with | none => (-10 - nI (s + 1), [], I o 11 + 1, I o 12, []) | some t' => if t' ∈ op ++ [t] then (-1, [], I o 11 + 1, I o 12, ringS D (op ++ [t]) t') else cpM D st (entS (cpS D n ((op ++ [t]) ++ [t'])) t' 0 (D.2.1 t') [] (I o 11 + 1) (I o 12))) = r → cpS D (n + 1) (op ++ [t]) s (I o 11) (I o 12) = r := fun r hr => by
      rw [← hr]
      conv => lhs; unfold cpS
      rw [if_pos z, hst]
      simp only
      cases tNm D st.2.1 <;> simp only
    have o2 : offT I I2 o tx D.1.length (op ++ [t]) := by rw [e2]; exact offT_cp
    have o2' : offT I I2 o tx D.1.length op := by rw [e2]; exact offT_cp
    have h2 := h.offT o2
    have i11 : I2 o 11 = I o 11 + 1 := by rw [e2]; exact u2_self _ _ _ _
    have i12 : I2 o 12 = I o 12 := by rw [e2]; exact u2_nk _ _ (by decide)
    have i10 : I2 o 10 = I o 10 := by rw [e2]; exact u2_nk _ _ (by decide)
    have hg2 : RingAt I2 o [] := ring_nil hg i10
    obtain ⟨d1, d2, d3⟩ := h2.2.2.2.1 s st hst
    refine ⟨c2.1, _, tX5_textNamed h2.1 h2.2.1 h2.2.2.1, fun r6 I7 h6 => ?_⟩
    obtain ⟨rfl, rfl⟩ := h6
    rw [d3.2.2.1 hcp]
    refine ⟨fun zn => ?_, fun b13 hb => ?_⟩
    · have hN : tNm D st.2.1 = none := by simpa using zn
      rw [hcS (-10 - nI (s + 1), [], I o 11 + 1, I o 12, []) (by rw [hN])]
      have hne := (cp_st (s + 1) (by omega) (by omega)).2.2.2
      unfold addR
      rw [if_neg hne]
      exact ⟨⟨by rw [d3.1], o2', offO.rf, i11, i12, hg2⟩, fun q => absurd q hne⟩
    · obtain ⟨t', hN, rfl⟩ : ∃ t', tNm D st.2.1 = some t' ∧ tx t' = b13 := by simpa using hb
      obtain ⟨ht0, ht'⟩ := tNm_le hN
      have hcr := tX5_closesRing (l := l) (G := G) (d := dd + 5) (L := L) (t := t') (op := op ++ [t]) h2 hg2.1 ht' hop ho (by simpa using hl13) (by simp)
      rw [show (op ++ [t]).length - 1 = op.length by simp] at hcr
      refine ⟨_, hcr, fun r16 I17 h16 => ?_⟩
      obtain ⟨g1, g2, rfl⟩ := h16
      rw [b2i_eq0, decide_eq_false_iff_not]
      have h17 := h2.offG g1
      refine ⟨fun zin => ?_, fun zin => ?_⟩
      · have hE := hcS (cpM D st (entS (cpS D n ((op ++ [t]) ++ [t'])) t' 0 (D.2.1 t') [] (I o 11 + 1) (I o 12))) (by rw [hN]; simp only; rw [if_neg zin])
        rw [hE]
        have hg17 : RingAt I17 o [] := by
          have : ringS D (op ++ [t]) t' = [] := by
            unfold ringS
            rw [dw_nil _ zin]; rfl
          rw [this] at g2; exact g2
        have hd3 : I17 (sa s) 3 = b2i st.2.2.1 := (h17.2.2.2.1 s st hst).2.2.2.2.2.1
        have hnd' : ((op ++ [t]) ++ [t']).Nodup := by
          rw [List.nodup_append]
          refine ⟨hnd, by simp, fun a ha b hb => ?_⟩
          simp at hb
          exact fun q => zin (by rw [← hb, ← q]; exact ha)
        have key : ∀ x : Int32, x = b2i (q || st.2.2.1) → ∃ φ23 : Int32 → TI → TR → Prop, MtJ l G yX5_makeRow cX5_makeRow 8 (some .int) (dd + 6) [.ref o, .ref (tx t'), .int (nI op.length + 1), .int x] K N I17 R L sz φ23 ∧ ∀ (r25 : Int32) (I26 : TI) (R27 : TR), φ23 r25 I26 R27 → ((r25 = 0 → ∃ b32, R27 o 7 = some b32 ∧ K b32 = 12 ∧ ∃ φ35 : TI → Prop, MtV l G yX1_clear cX1_clear 1 none (dd + 6) [.ref b32] K N I26 R27 L sz φ35 ∧ ∀ (I38 : TI), φ35 I38 → K (tx t') = 14 ∧ ∃ b45, R27 (tx t') 2 = some b45 ∧ K b45 = 12 ∧ ∃ φ48 : Int32 → TI → Prop, MtI l G yX5_matchPart cX5_matchPart 8 (some .int) (dd + 6) [.ref o, .ref b45, .int 0, .int (I38 b45 6), .ref (sa s), .ref b32] K N I38 R27 L sz φ48 ∧ ∀ (r50 : Int32) (I51 : TI), φ48 r50 I51 → ((r50 = 0 → K (tx t + 1) = 12 ∧ ∃ φ58 : Int32 → TI → Prop, MtI l G yX1_addAll cX1_addAll 3 (some .boolean) (dd + 6) [.ref (tx t + 1), .ref b32] K N I51 R27 L sz φ58 ∧ ∀ (r60 : Int32) (I61 : TI), φ58 r60 I61 → ((r60 = 0 → (AftT o tx D.1.length op (op.length + 1) (addR out (cpM D st (entS (cpS D n ((op ++ [t]) ++ [t'])) t' 0 (D.2.1 t') [] (I o 11 + 1) (I o 12)))) I R (-3) I61 R27 ∧ rowT tx t op.length q (addR out (cpM D st (entS (cpS D n ((op ++ [t]) ++ [t'])) t' 0 (D.2.1 t') [] (I o 11 + 1) (I o 12)))) I61)) ∧ (¬ r60 = 0 → (AftT o tx D.1.length op (op.length + 1) (addR out (cpM D st (entS (cpS D n ((op ++ [t]) ++ [t'])) t' 0 (D.2.1 t') [] (I o 11 + 1) (I o 12)))) I R 0 I61 R27 ∧ rowT tx t op.length q (addR out (cpM D st (entS (cpS D n ((op ++ [t]) ++ [t'])) t' 0 (D.2.1 t') [] (I o 11 + 1) (I o 12)))) I61)))) ∧ (¬ r50 = 0 → (AftT o tx D.1.length op (op.length + 1) (addR out (cpM D st (entS (cpS D n ((op ++ [t]) ++ [t'])) t' 0 (D.2.1 t') [] (I o 11 + 1) (I o 12)))) I R r50 I51 R27 ∧ rowT tx t op.length q (addR out (cpM D st (entS (cpS D n ((op ++ [t]) ++ [t'])) t' 0 (D.2.1 t') [] (I o 11 + 1) (I o 12)))) I51)))) ∧ (¬ r25 = 0 → (AftT o tx D.1.length op (op.length + 1) (addR out (cpM D st (entS (cpS D n ((op ++ [t]) ++ [t'])) t' 0 (D.2.1 t') [] (I o 11 + 1) (I o 12)))) I R r25 I26 R27 ∧ rowT tx t op.length q (addR out (cpM D st (entS (cpS D n ((op ++ [t]) ++ [t'])) t' 0 (D.2.1 t') [] (I o 11 + 1) (I o 12)))) I26))) := fun x hx => by
          subst hx
          have hmk := hM (dd + 6) (op ++ [t]) t' (q || st.2.2.1) I17 R (by omega) (by simp; omega) hnd' (fun u hu => by
            rcases List.mem_append.mp hu with w | w
            · exact hop u w
            · simp at w; omega) h17 ho hg17
          rw [show nI (op ++ [t]).length = nI op.length + 1 by rw [nI_1]; simp, show I17 o 11 = I o 11 + 1 by rw [g1.2 11 (by decide)]; exact i11, show I17 o 12 = I o 12 by rw [g1.2 12 (by decide)]; exact i12] at hmk
          have hEok := entS_ok hl60 (t := t') (cpS_ok hl60 hwf n ((op ++ [t]) ++ [t'])) 0 (D.2.1 t') [] (I o 11 + 1) (I o 12) (hwf.1 t') (fun y hy => by cases hy)
          have hEring := entS_ring (cpf := cpS D n ((op ++ [t]) ++ [t'])) (t := t') 0 (D.2.1 t') [] (I o 11 + 1) (I o 12)
          generalize entS (cpS D n ((op ++ [t]) ++ [t'])) t' 0 (D.2.1 t') [] (I o 11 + 1) (I o 12) = E at *
          refine ⟨_, hmk, fun r25 I26 R27 h25 => ?_⟩
          obtain ⟨⟨rfl, k2, k3, k4, k5, k6⟩, k7⟩ := h25
          have o17 : offT I I17 o tx D.1.length (op ++ [t]) := o2.tr g1.t
          have o26 : offT I I26 o tx D.1.length (op ++ [t]) := o17.tr k2
          have sub : ∀ u, u ∉ op ++ [t] → u ∉ op := fun u hu z => hu (List.mem_append_left _ z)
          have hk3 : offO R R27 o (op.length + 1) := k3.mono (by simp)
          refine ⟨fun z0 => ?_, fun z0 => ?_⟩
          · have h26 := (h17.offT k2).offO k3
            obtain ⟨f1, f2, f3, f4, f5, f6, f7, f8⟩ := h26.1
            obtain ⟨m1, m2, m3⟩ := h26.2.2.1 t' ht'
            have hlo' := (h26.2.2.2.2.2.tx_lo ht').1
            refine ⟨o + 5, f6.1, f6.2.1, _, tX1_clear f6.2, fun I38 h38 => ⟨m2.1, tx t' + 1, m2.2.1, m2.2.2.1.1, ?_⟩⟩
            have hrow26 := k7 z0
            have hrow38 : RowIs I38 (tx t' + 1) (E.2.1.map (lf (op ++ [t]).length (q || st.2.2.1))) := hrow26.other h38.2 (Or.inl (by omega))
            have o38 : offT I I38 o tx D.1.length (op ++ [t]) := o26.tr h38.2.t5
            have h38r : ClsRep K N I38 R27 o sz tx sa pa D := h26.offT (op := op ++ [t]) h38.2.t5
            have hlen : (E.2.1.map (lf (op ++ [t]).length (q || st.2.2.1))).length = E.2.1.length := List.length_map _
            have hmp := tX5_matchPart (l := l) (G := G) (d := dd + 2) (L := L) (i := 0) (en := E.2.1.length) (by0 := some (sa s)) (ps := st.2.2.2) h38r hwf (Or.inl rfl) f6.2 h38.1 m2.2.2.1 hrow38 (by omega) (Nat.zero_le _) (by rw [hlen]; exact Nat.le_refl _) (fun y hy => by
              obtain ⟨w, hw1, rfl⟩ := List.mem_map.mp hy
              exact lf_okI hl60 (hEok w hw1).1) (Or.inr ⟨s, st, hst, rfl, rfl⟩)
            rw [seg_all (by rw [hlen]), show ([] : List It) = [].map (lf (op ++ [t]).length (q || st.2.2.1)) from rfl, matchS_map hl60 hwf (lf_LF hl60 _ _) _ _ _ _ (fun y hy => (hEok y hy).1), Nat.sub_zero] at hmp
            have e6 : I38 (tx t' + 1) 6 = nI E.2.1.length := by rw [hrow38.1, hlen]
            have e38 : I38 o = I26 o := h38.2 o (by omega)
            rw [e6]
            refine ⟨_, hmp, fun r50 I51 h50 => ?_⟩
            obtain ⟨n1, n2, n3, n4⟩ := h50
            rw [e38, k5] at n2 n3 n4
            have hcpM : cpM D st E = cpE st E.2.2.1 (matchS D st.2.2.2 E.2.1.length E.2.1 [] E.2.2.2.1) := by unfold cpM; rw [if_pos z0]
            have hMok := matchS_ok hl60 hwf (ps := st.2.2.2) (n := E.2.1.length) (mt := E.2.2.2.1) hEok
            rw [hcpM]
            generalize matchS D st.2.2.2 E.2.1.length E.2.1 [] E.2.2.2.1 = M at *
            have hn2 : r50 = M.1 := n2
            subst hn2
            have o51 : offT I I51 o tx D.1.length (op ++ [t]) := o38.tr n1.t
            have i51 : I51 o 11 = E.2.2.1 := by rw [n1.2 11 (by decide), e38]; exact k4
            have r51 : RingAt I51 o [] := by
              rw [hEring z0] at k6
              exact ring_nil k6 (by rw [n1.2 10 (by decide), e38])
            have w51 : RowIs I51 (tx t + 1) (out.map (lf op.length q)) := o51.row h ht (by simp) hw
            refine ⟨fun z1 => ⟨b2.2.2.1.1, ?_⟩, fun z1 => ?_⟩
            · have b27 : rowP K N R27 (tx t + 1) := (h26.2.2.1 t ht).2.1.2.2.1
              refine ⟨_, tX1_addAll b27 w51 f6.2 (n4 z1) (Or.inr (by omega)), fun r60 I61 h60 => ?_⟩
              obtain ⟨x1, x2⟩ := h60
              have o61 : offT I I61 o tx D.1.length op := (o51.mono sub).tr (x1.tt ht hnt hlo)
              have e61 : I61 o = I51 o := x1 o (by omega)
              rw [List.length_map, List.length_map] at x2
              have hcE : cpE st E.2.2.1 M = (0, M.2.1.map (upIt st.2.2.1), E.2.2.1, M.2.2, []) := by unfold cpE; rw [if_pos z1]
              rw [hcE]
              unfold addR
              simp only [if_true, List.length_map]
              rcases x2 with ⟨y1, rfl, y3⟩ | ⟨y1, rfl⟩
              · refine ⟨fun z => absurd z (by decide), fun _ => ?_⟩
                rw [if_pos y1]
                refine ⟨⟨rfl, o61, hk3, by rw [e61]; exact i51, by rw [e61]; exact n3, ring_nil r51 (by rw [e61])⟩, fun _ => ?_⟩
                show RowIs I61 (tx t + 1) ((out ++ M.2.1.map (upIt st.2.2.1)).map (lf op.length q))
                rw [List.map_append, List.map_map]
                have hfun : (lf op.length q) ∘ (upIt st.2.2.1) = lf (op ++ [t]).length (q || st.2.2.1) := by
                  funext w
                  simp only [Function.comp]
                  rw [lf_up]; simp
                rw [hfun]; exact y3
              · refine ⟨fun _ => ?_, fun z => absurd rfl z⟩
                rw [if_neg (by omega)]
                exact ⟨⟨rfl, o61, hk3, by rw [e61]; exact i51, by rw [e61]; exact n3, ring_nil r51 (by rw [e61])⟩, fun q => absurd q (show ¬ (-3 : Int32) = 0 by decide)⟩
            · have hcE : cpE st E.2.2.1 M = (M.1, [], E.2.2.1, M.2.2, []) := by unfold cpE; rw [if_neg z1]
              rw [hcE]
              unfold addR
              rw [if_neg z1]
              exact ⟨⟨rfl, o51.mono sub, hk3, i51, n3, r51⟩, fun q => absurd q z1⟩
          · have hcpM : cpM D st E = E := by unfold cpM; rw [if_neg z0]
            rw [hcpM]
            unfold addR
            rw [if_neg z0]
            exact ⟨⟨rfl, o26.mono sub, hk3, k4, k5, k6⟩, fun q => absurd q z0⟩
        refine ⟨fun z => key 1 ?_, fun z => ⟨fun z2 => key 0 ?_, fun z2 => key 1 ?_⟩⟩
        · rw [b2i_ne0] at z; rw [z]; rfl
        · rw [b2i_eq0] at z; rw [hd3, b2i_eq0] at z2; rw [z, z2]; rfl
        · rw [b2i_eq0] at z; rw [hd3, b2i_ne0] at z2; rw [z, z2]; rfl
      · have zin' : t' ∈ op ++ [t] := Classical.not_not.mp zin
        have hE := hcS (-1, [], I o 11 + 1, I o 12, ringS D (op ++ [t]) t') (by rw [hN]; simp only; rw [if_pos zin'])
        rw [hE]
        unfold addR
        rw [if_neg (show ¬ (-1 : Int32) = 0 by decide)]
        exact ⟨⟨rfl, o2'.tr g1.t, offO.rf, by rw [g1.2 11 (by decide)]; exact i11, by rw [g1.2 12 (by decide)]; exact i12, g2⟩, fun q => absurd q (show ¬ (-1 : Int32) = 0 by decide)⟩
  · have hE : cpS D (n + 1) (op ++ [t]) s (I o 11) (I o 12) = (-3, [], I o 11, I o 12, []) := by
      conv => lhs; unfold cpS
      rw [if_neg z]
    rw [hE]
    unfold addR
    rw [if_neg (show ¬ (-3 : Int32) = 0 by decide)]
    exact ⟨⟨rfl, offT.rf, offO.rf, rfl, rfl, hg⟩, fun q => absurd q (show ¬ (-3 : Int32) = 0 by decide)⟩
theorem add_all (hwf : WfD D) : ∀ n, HAdd l G K N L sz o tx sa pa D n
  | 0 => add_zero
  | n + 1 => add_of_mak hwf (mak_of_add hwf (add_all hwf n))
theorem tX5_makeRow (hwf : WfD D) (n : Nat) : HMak l G K N L sz o tx sa pa D n := mak_of_add hwf (add_all hwf n)
end COPY
