/-! the reference's run as a whole -/
section RRUN2
variable {p : Program} {l : Launch} {e : Env} {s : State} {m : MethodId} {args : Array Value} {below : List Frame} {meth : Method} {c : Code} {G : Gx} {d : Nat} {K N : TK} {I : TI} {R : TR} {L : TL} {sz q : Nat} {D : Dt} {φ : Int32 → TI → Prop}
def AftRR (q : Nat) (D : Dt) (I : TI) (v : Int32) (I' : TI) : Prop := v = runV (runS D) ∧ RefD I' q D ∧ RefRun I' q (runS D).2.1 (runS D).2.2.2.2 (runS D).2.2.1 (runS D).2.2.2.1 ∧ offRef I I' q
theorem run_x (C : Cx p s m args meth c (AM K sz) G RX6 cX6_run 6) (hr : meth.sig.returnType = (some .int)) {x1 : Int32} (hF : RefF K N R q) (hf : ¬ I q 28 = 0) (hφ : φ (I q 28) I) : WI p l e s m args below meth c G (d + 5) φ K N R L sz 6 43 [(0, .ref q), (1, .int x1)] I :=
  vX6_run_43 (d := d + 4) C hr ⟨fun _ => ⟨hF.1, fun z => absurd z hf, fun _ => hφ⟩, fun _ => ⟨hF.1, fun _ => ⟨fun z => absurd z hf, fun _ => hφ⟩, fun z => absurd z hf⟩⟩
theorem FltAt.run {I' : TI} {r : ResT} (h : FltAt I q D r) (h32 : I q 32 = 0) (hrow : r.2.1 = []) : RefRun I q r.2.1 r.2.2.2.2 r.2.2.1 r.2.2.2.1 := by
  obtain ⟨h1, h2, h3, h4, h5, h6, h7⟩ := h
  rw [hrow]
  exact ⟨h32, by simp, fun j x hx => by simp at hx, h5, h6, h7, h3, h4⟩
theorem tX6_run (hF : RefF K N R q) (hD : RefD I q D) (hwf : WfD D) : MtI l G yX6_run cX6_run 6 (some .int) (d + 5) [.ref q] K N I R L sz (AftRR q D I) := by
  have hl60 := hD.1.2.2.2.2.1
  refine sX6_run (d := d + 4) (fun p e s m args below meth c C hr => ⟨hF.1, fun I2 e2 I3 e3 I4 e4 I5 e5 I6 e6 I7 e7 I8 e8 => ?_⟩)
  have hfar : ∀ a, a ≠ q → I8 a = I a := fun a y => by rw [e8, u2_ne _ _ y, e7, u2_ne _ _ y, e6, u2_ne _ _ y, e5, u2_ne _ _ y, e4, u2_ne _ _ y, e3, u2_ne _ _ y, e2, u2_ne _ _ y]
  have hq : ∀ k, k ≠ 0 → k ≠ 27 → k ≠ 28 → k ≠ 29 → k ≠ 30 → k ≠ 31 → k ≠ 32 → I8 q k = I q k := fun k y0 y1 y2 y3 y4 y5 y6 => by rw [e8, u2_nk _ _ y6, e7, u2_nk _ _ y5, e6, u2_nk _ _ y4, e5, u2_nk _ _ y3, e4, u2_nk _ _ y2, e3, u2_nk _ _ y1, e2, u2_nk _ _ y0]
  have i32 : I8 q 32 = 0 := by rw [e8, u2_self]
  have i31 : I8 q 31 = 0 := by rw [e8, u2_nk _ _ (by decide), e7, u2_self]
  have i30 : I8 q 30 = 0 := by rw [e8, u2_nk _ _ (by decide), e7, u2_nk _ _ (by decide), e6, u2_self]
  have i29 : I8 q 29 = 0 := by rw [e8, u2_nk _ _ (by decide), e7, u2_nk _ _ (by decide), e6, u2_nk _ _ (by decide), e5, u2_self]
  have i28 : I8 q 28 = 0 := by rw [e8, u2_nk _ _ (by decide), e7, u2_nk _ _ (by decide), e6, u2_nk _ _ (by decide), e5, u2_nk _ _ (by decide), e4, u2_self]
  have i27 : I8 q 27 = 0 := by rw [e8, u2_nk _ _ (by decide), e7, u2_nk _ _ (by decide), e6, u2_nk _ _ (by decide), e5, u2_nk _ _ (by decide), e4, u2_nk _ _ (by decide), e3, u2_self]
  have hD8 : RefD I8 q D := hD.mv (hq 1 (by decide) (by decide) (by decide) (by decide) (by decide) (by decide) (by decide)) (hq 2 (by decide) (by decide) (by decide) (by decide) (by decide) (by decide) (by decide)) (hq 3 (by decide) (by decide) (by decide) (by decide) (by decide) (by decide) (by decide)) (fun c y1 y2 => hfar _ (by omega))
  have o8 : offRef I I8 q := fun a ha => hfar a (by omega)
  have hR8 : RunAt I8 q D [] 0 0 := ⟨hD8, i27, i28, i29, i30, i31, fun k f hk => by simp at hk⟩
  refine ⟨_, tX6_begin (t := 0) (sn := 0) hF hR8 (by simp), fun I12 h12 => ?_⟩
  obtain ⟨o12, hR12⟩ := h12
  have hop : opOk D (([] : List FrT).map (·.1) ++ [0]) := ⟨by simp, fun u hu => by simp at hu; omega, rfl⟩
  refine sim C hr hF hwf 13 (D.2.1 0) [] 0 0 0 [] 0 0 I12 rfl hop (by rw [List.drop_zero]) (Nat.zero_le _) (fun y hy => by cases hy) ⟨0, by omega, rfl⟩ hR12 (fun I' hI' => ?_)
  have hEok := entS_ok hl60 (t := 0) (cpS_ok hl60 hwf 13 [0]) 0 (D.2.1 0) [] 0 0 (hwf.1 0) (fun y hy => by cases hy)
  have hEf := entS_fault (cpf := cpS D 13 [0]) (t := 0) 0 (D.2.1 0) [] 0 0
  have hrun : runS D = if (entS (cpS D 13 [0]) 0 0 (D.2.1 0) [] 0 0).1 = 0 then runE (entS (cpS D 13 [0]) 0 0 (D.2.1 0) [] 0 0).2.2.1 (matchC D (entS (cpS D 13 [0]) 0 0 (D.2.1 0) [] 0 0).2.1.length [] (entS (cpS D 13 [0]) 0 0 (D.2.1 0) [] 0 0).2.1 [] (entS (cpS D 13 [0]) 0 0 (D.2.1 0) [] 0 0).2.2.2.1) else entS (cpS D 13 [0]) 0 0 (D.2.1 0) [] 0 0 := rfl
  have hl0 : ([] : List FrT).map (fun x => x.1) ++ [0] = [0] := rfl
  rw [hl0]
  unfold AftRR
  rw [hrun]
  clear hrun
  generalize entS (cpS D 13 [0]) 0 0 (D.2.1 0) [] 0 0 = E at *
  have oI : offRef I I' q := o8.tr (o12.tr hI').1
  have j32 : I' q 32 = 0 := (o12.tr hI').2.trans i32
  refine ⟨fun z _ hR' => ?_, fun z hfl => ?_⟩
  · rw [if_pos z]
    refine run_head C hr hF hR' (Nat.zero_le _) (Nat.zero_le _) (Nat.le_refl _) (fun _ => ⟨fun y => absurd y (by simp), fun _ => ⟨_, tX6_end1 hF hwf hR' (fun y hy => (hEok y hy).1), fun I69 h69 => ?_⟩⟩) (fun e2 he2 => absurd (List.getElem?_eq_some_iff.mp he2).1 (by omega))
    obtain ⟨hD', j27, j28, j29, j30, j31, hs'⟩ := hR'
    generalize matchC D E.2.1.length [] E.2.1 [] E.2.2.2.1 = M at *
    obtain ⟨g1, g2, g3, g4⟩ := h69
    have hD69 : RefD I69 q D := g1.dat (fun k y => by unfold fS at y; omega) hD'
    have k29 : I69 q 29 = E.2.2.1 := (g1.2.1 29 (by unfold fS; omega)).trans j29
    have k31 : I69 q 31 = 0 := (g1.2.1 31 (by unfold fS; omega)).trans j31
    have k32 : I69 q 32 = 0 := (g1.2.1 32 (by unfold fS; omega)).trans j32
    have o69 : offRef I I69 q := oI.tr g1.ref
    by_cases hM : M.1 = 0
    · have hrE : runE E.2.2.1 M = (0, M.2.1, E.2.2.1, M.2.2, []) := by unfold runE; rw [if_pos hM]
      have f20 := hF.2 20 (by decide) (by decide)
      have hrow := g4 hM
      refine vX6_run_43 (d := d + 4) C hr ⟨fun _ => ⟨hF.1, fun _ => ⟨q + 20, f20.1, f20.2.1, by rw [f20.2.2]; exact vp_in_nI (show 0 < 15 by omega) (by decide), fun I6 e6 => ?_⟩, fun y => absurd (g3.trans hM) y⟩, fun y => absurd y (by decide)⟩
      rw [show Int32.toNatClampNeg 0 = 0 from rfl, hrow.1] at e6
      rw [hrE]
      have hfar6 : ∀ a, a ≠ q → I6 a = I69 a := fun a y => by rw [e6, u2_ne _ _ y]
      have hq6 : ∀ k, k ≠ 32 → I6 q k = I69 q k := fun k y => by rw [e6, u2_nk _ _ y]
      refine ⟨by rw [e6, u2_self]; rfl, hD69.mv (hq6 1 (by decide)) (hq6 2 (by decide)) (hq6 3 (by decide)) (fun c y1 y2 => hfar6 _ (by omega)), ⟨by rw [e6, u2_self], hrow.2.1, fun j x hx => ?_, (hq6 31 (by decide)).trans k31, by simp, ListAt.nil, (hq6 29 (by decide)).trans k29, (hq6 30 (by decide)).trans g2⟩, o69.tr (fun a ha => hfar6 a (by omega))⟩
      have := hrow.2.2 j x hx
      rw [show 302 * 0 + j = j by omega] at this
      unfold rfAt at this ⊢
      rw [hfar6 _ (by omega), hfar6 _ (by omega), hfar6 _ (by omega), hfar6 _ (by omega), hfar6 _ (by omega), hfar6 _ (by omega)]
      exact this
    · have hrE : runE E.2.2.1 M = (M.1, [], E.2.2.1, M.2.2, []) := by unfold runE; rw [if_neg hM]
      refine run_x C hr hF (by rw [g3]; exact hM) ?_
      rw [hrE]
      refine ⟨by rw [g3]; unfold runV; rw [if_neg hM], hD69, ?_, o69⟩
      exact ⟨k32, by simp, fun j x hx => by simp at hx, k31, by simp, ListAt.nil, k29, g2⟩
  · rw [if_neg z]
    refine run_x C hr hF (by rw [hfl.2.1]; exact z) ?_
    refine ⟨by rw [hfl.2.1]; unfold runV; rw [if_neg z], hfl.1, ?_, oI⟩
    obtain ⟨h1, h2, h3, h4, h5, h6, h7⟩ := hfl
    rw [hEf z]
    exact ⟨j32, by simp, fun j x hx => by simp at hx, h5, h6, h7, h3, h4⟩
end RRUN2
