/-! the class's run as a whole -/
theorem runS_fault {D : Dt} (h : (runS D).1 ≠ 0) : (runS D).2.1 = [] := by
  unfold runS at h ⊢
  split
  · rename_i h1
    rw [if_pos h1] at h
    unfold runE at h ⊢
    split
    · rename_i h2
      rw [if_pos h2] at h
      exact absurd rfl h
    · rfl
  · rename_i h1
    exact entS_fault _ _ _ _ _ h1
section RUNC
variable {l : Launch} {G : Gx} {d : Nat} {K N : TK} {I : TI} {R : TR} {L : TL} {sz : Nat} {o : Nat} {tx sa pa : Nat → Nat} {D : Dt}
/-- what holds behind a run -/
def AftJ (K N : TK) (o sz : Nat) (tx sa pa : Nat → Nat) (D : Dt) (I : TI) (R : TR) (v : Int32) (I' : TI) (R' : TR) : Prop := v = runV (runS D) ∧ ClsRep K N I' R' o sz tx sa pa D ∧ ClsRun I' o (runS D).2.1 (runS D).2.2.2.2 (runS D).2.2.1 (runS D).2.2.2.1 ∧ keepO I I' o ∧ ∀ a, a ≠ o + 4 → R' a = R a
theorem keepO.tr {I I' I'' : TI} {o : Nat} (h : keepO I I' o) (h2 : keepO I' I'' o) : keepO I I'' o := fun a q1 q2 => (h2 a q1 q2).trans (h a q1 q2)
theorem tX5_run (h : ClsRep K N I R o sz tx sa pa D) (hwf : WfD D) : MtJ l G yX5_run cX5_run 3 (some .int) (d + 40) [.ref o] K N I R L sz (AftJ K N o sz tx sa pa D I R) := by
  have f8 := h.1.2.2.2.2.2.2.1
  have hl60 := h.2.1.2.2.2.2.1
  refine sX5_run (d := d + 39) ⟨h.1.1, o + 12, f8.1, f8.2.1, _, tX1_clear f8.2, fun I8 h8 I14 e14 I15 e15 I16 e16 => ?_⟩
  obtain ⟨h8a, h8b⟩ := h8
  have a16 : ∀ a, a ≠ o → I16 a = I8 a := fun a ha => by rw [e16, u2_ne _ _ ha, e15, u2_ne _ _ ha, e14, u2_ne _ _ ha]
  have i10 : I16 o 10 = 0 := by rw [e16, u2_nk _ _ (by decide), e15, u2_nk _ _ (by decide), e14, u2_self]
  have i11 : I16 o 11 = 0 := by rw [e16, u2_nk _ _ (by decide), e15, u2_self]
  have i12 : I16 o 12 = 0 := by rw [e16, u2_self]
  have ik : ∀ k, k ≠ 10 → k ≠ 11 → k ≠ 12 → I16 o k = I o k := fun k q1 q2 q3 => by rw [e16, u2_nk _ _ q3, e15, u2_nk _ _ q2, e14, u2_nk _ _ q1, h8b o (by omega)]
  have h16 : ClsRep K N I16 R o sz tx sa pa D := by
    obtain ⟨a1, a2, a3, a4, a5, a6⟩ := id h
    refine h.keepI (ik _ (by decide) (by decide) (by decide)) (ik _ (by decide) (by decide) (by decide)) (ik _ (by decide) (by decide) (by decide)) (fun t ht => ?_) (fun s hs => ?_) (fun p hp k hk => ?_)
    · have := (a6.tx_lo ht).1
      exact ⟨by rw [a16 _ (by omega), h8b _ (by omega)], by rw [a16 _ (by omega), h8b _ (by omega)]⟩
    · have := a6.s_lo hs
      rw [a16 _ (by omega), h8b _ (by omega)]
    · have := a6.p_lo hp
      rw [a16 _ (by omega), h8b _ (by omega)]
  have r16 : RowIs I16 (o + 12) [] := h8a.off (fun a q1 q2 => a16 a (by omega))
  have k16 : keepO I I16 o := fun a q1 q2 => by rw [a16 a (by omega), h8b a (by omega)]
  have hg16 : RingAt I16 o [] := ⟨i10, by simp, ListAt.nil⟩
  refine ⟨_, tX5_textNumbered h16.1 h16.2.1 h16.2.2.1, fun r19 I20 h19 => ?_⟩
  obtain ⟨h19a, rfl⟩ := h19
  have hO : tOf D 0 = some 0 := by
    have : hasB (D.1.length + 1) (nI 0) = true := by rw [hasB_nI (by omega) (by have := h.2.1.2.2.2.1; omega)]; simp
    unfold tOf
    rw [show (0 : Int32) = nI 0 from rfl, this]; rfl
  rw [hO] at h19a
  refine ⟨fun z => (by rw [h19a] at z; cases z), fun b26 hb => ?_⟩
  rw [h19a] at hb
  have hb : tx 0 = b26 := Option.some.inj hb
  subst hb
  have hmk := tX5_makeRow (l := l) (G := G) (K := K) (N := N) (L := L) (sz := sz) (o := o) (tx := tx) (sa := sa) (pa := pa) (D := D) hwf 13 (d + 39) [] 0 false I20 R (by omega) rfl (by simp) (fun u hu => by simp at hu; omega) h16 (fun j u hu => by simp at hu) hg16
  rw [i11, i12] at hmk
  refine ⟨_, hmk, fun r29 I30 R31 h29 => ?_⟩
  obtain ⟨⟨g1, g2, g3, g4, g5, g6⟩, g7⟩ := h29
  have h30 := (h16.offT g2).offO g3
  have a6 := h.2.2.2.2.2
  have hlo := (a6.tx_lo (Nat.zero_le D.1.length)).1
  have hoffrow : ∀ a, o + 12 ≤ a → a ≤ o + 18 → I30 a = I20 a := fun a q1 q2 => g2.1 a (by omega) (by omega) (by omega) (fun u hu _ => by have := (a6.tx_lo hu).1; omega)
  have r30 : RowIs I30 (o + 12) [] := r16.off (fun a q1 q2 => hoffrow a q1 (by omega))
  have k30 : keepO I I30 o := k16.tr (fun a q1 q2 => g2.1 a (by omega) (by omega) (by omega) (fun u hu _ => by have := (a6.tx_lo hu).2; omega))
  have hR31 : ∀ a, a ≠ o + 4 → R31 a = R a := g3.1
  have f8' := h30.1.2.2.2.2.2.2.1
  have hE : ([] : List Nat) ++ [0] = [0] := rfl
  rw [hE] at g1 g4 g5 g6 g7
  have hEok := entS_ok hl60 (t := 0) (cpS_ok hl60 hwf 13 [0]) 0 (D.2.1 0) [] 0 0 (hwf.1 0) (fun y hy => by cases hy)
  have hEf := entS_fault (cpf := cpS D 13 [0]) (t := 0) 0 (D.2.1 0) [] 0 0
  have hEr := entS_ring (cpf := cpS D 13 [0]) (t := 0) 0 (D.2.1 0) [] 0 0
  have hrun : runS D = if (entS (cpS D 13 [0]) 0 0 (D.2.1 0) [] 0 0).1 = 0 then runE (entS (cpS D 13 [0]) 0 0 (D.2.1 0) [] 0 0).2.2.1 (matchC D (entS (cpS D 13 [0]) 0 0 (D.2.1 0) [] 0 0).2.1.length [] (entS (cpS D 13 [0]) 0 0 (D.2.1 0) [] 0 0).2.1 [] (entS (cpS D 13 [0]) 0 0 (D.2.1 0) [] 0 0).2.2.2.1) else entS (cpS D 13 [0]) 0 0 (D.2.1 0) [] 0 0 := rfl
  unfold AftJ
  rw [hrun]
  clear hrun
  generalize entS (cpS D 13 [0]) 0 0 (D.2.1 0) [] 0 0 = E at *
  subst g1
  refine ⟨fun z => ⟨fun z2 => absurd z2 z, fun _ => ⟨o + 12, f8'.1, f8'.2.1, _, tX1_clear f8'.2, fun I45 h45 => ?_⟩⟩, fun z => ?_⟩
  · rw [if_neg z]
    obtain ⟨c1, c2⟩ := h45
    have hM : offM I30 I45 o (o + 12) := c2.toM (by omega)
    have e45 : I45 o = I30 o := c2 o (by omega)
    refine ⟨by unfold runV; rw [if_neg z], h30.offM (Or.inr rfl) hM, ⟨by rw [hEf z]; exact c1, by rw [e45]; exact g6.1, g6.2.1, by rw [c2 (o + 19) (by omega)]; exact g6.2.2, by rw [e45]; exact g4, by rw [e45]; exact g5⟩, k30.tr (fun a q1 q2 => c2 a (by omega)), hR31⟩
  · rw [if_pos z]
    obtain ⟨m1, m2, m3⟩ := h30.2.2.1 0 (Nat.zero_le _)
    have hmb := tX5_matchByReplaces (l := l) (G := G) (d := d + 34) (L := L) (rl := E.2.1) h30 hwf m2.2.2.1 (by omega) hEok r30 (g7 z)
    rw [g5] at hmb
    refine ⟨m2.1, tx 0 + 1, m2.2.1, _, hmb, fun r56 I57 h56 => ?_⟩
    generalize matchC D E.2.1.length [] E.2.1 [] E.2.2.2.1 = M at *
    obtain ⟨n1, n2, n3, n4⟩ := h56
    subst n2
    have h57 := h30.offM (Or.inr rfl) n1
    have k57 : keepO I I57 o := k30.tr (fun a q1 q2 => n1.1 a (by omega) (by omega))
    have g57 : RingAt I57 o [] := by
      rw [hEr z] at g6
      exact ring_nil g6 (n1.2 10 (by decide))
    have i57 : I57 o 11 = E.2.2.1 := by rw [n1.2 11 (by decide)]; exact g4
    refine ⟨fun z2 => ⟨o + 12, f8'.1, f8'.2.1, ?_⟩, fun z2 => ⟨o + 12, f8'.1, f8'.2.1, _, tX1_clear f8'.2, fun I72 h72 => ?_⟩⟩
    · have hr : runE E.2.2.1 M = (0, M.2.1, E.2.2.1, M.2.2, []) := by unfold runE; rw [if_pos z2]
      rw [hr]
      exact ⟨by rw [(n4 z2).1]; rfl, h57, ⟨n4 z2, g57.1, by simp, ListAt.nil, i57, n3⟩, k57, hR31⟩
    · have hr : runE E.2.2.1 M = (M.1, [], E.2.2.1, M.2.2, []) := by unfold runE; rw [if_neg z2]
      rw [hr]
      obtain ⟨c1, c2⟩ := h72
      have e72 : I72 o = I57 o := c2 o (by omega)
      have hM : offM I57 I72 o (o + 12) := c2.toM (by omega)
      exact ⟨by unfold runV; rw [if_neg z2], h57.offM (Or.inr rfl) hM, ⟨c1, by rw [e72]; exact g57.1, by simp, ListAt.nil, by rw [e72]; exact i57, by rw [e72]; exact n3⟩, k57.tr (fun a q1 q2 => c2 a (by omega)), hR31⟩
end RUNC
