/-! the law's case of at -/
theorem ClsRep.mono {K N : TK} {I : TI} {R : TR} {o sz sz' : Nat} {tx sa pa : Nat → Nat} {D : Dt} (h : ClsRep K N I R o sz tx sa pa D) (hs : sz ≤ sz') : ClsRep K N I R o sz' tx sa pa D := by
  obtain ⟨a1, a2, a3, a4, a5, a6⟩ := h
  exact ⟨a1, a2, a3, a4, a5, a6.mono hs⟩
section CASE9
variable {p : Program} {l : Launch} {e : Env} {s : State} {m : MethodId} {args : Array Value} {below : List Frame} {meth : Method} {c : Code} {Q : State → Prop} {A : Nat → Prop} {G : Gx} {K N : TK} {I : TI} {R : TR} {L : TL} {sz cells slots : Nat} {b Len o i : Nat} {xs : Nat → Int32} {D : Dt} {res : List It} {ring : List Int32} {cp mt : Int32}
theorem lc9 (hTW : TW s) (hst : l.stackTraces = false) (C : Cx p s m args meth c A G RL cL_law 7) (hA : ∀ q, A q → s.heap.size ≤ q) (hX : va_X b Len xs s s.heap) (hbl : b < s.heap.size) (hL : Len ≤ 2048) (h : Inv K N I R sz o D res ring cp mt) (hi : i + 4 ≤ Len) (hc : cells + 9 ≤ 601024 ∧ slots + 2012 ≤ 7293034) (kk : ∀ (K' N' : TK) (I' : TI) (R' : TR) (L' : TL) (sz' : Nat) (D' : Dt) (res' : List It) (ring' : List Int32) (cp' mt' : Int32), Inv K' N' I' R' sz' o D' res' ring' cp' mt' → Wm p l e room_1 s m args below meth c Q A G 7 560 (lv5 b o i) [] K' N' I' R' L' sz' (cells + 9) (slots + 2012)) : Wm p l e room_1 s m args below meth c Q A G 7 417 (lv5 b o i) [] K N I R L sz cells slots := by
  obtain ⟨tx, sa, pa, h1, h2, hF, hD, hR, hW, hw1, hw2⟩ := h
  refine wm_aload_n C rfl dL_law_417 ?_
  refine wm_ld C hA hX hbl hL 1 (by omega) rfl rfl rfl dL_law_418 dL_law_419 dL_law_421 dL_law_422 dL_law_423 ?_
  refine wm_aload_n C rfl dL_law_424 ?_
  have f8 := h1.1.2.2.2.2.2.2.1
  refine wm_callAt C hA hTW (res := res) hst ⟨h1.1.1, f8.1, f8.2⟩ h2.1 ⟨hw1, hw2⟩ ⟨by decide, by decide⟩ (Nat.le_of_ble_eq_true rfl) ⟨by show _ ≤ 601024; omega, by show _ ≤ 7293034; omega⟩ dL_law_425 (fun v K' N' I' R' L' sz' hv => ?_)
  obtain ⟨e1, e2, e3, e4, hv⟩ := hv
  subst e1; subst e2; subst e3; subst e4
  rcases hv with ⟨ha, rfl, rfl, rfl⟩ | ⟨x, ha, rfl, rfl, rfl⟩
  · refine wm_istore C (x := 1) (st := []) (by decide) dL_law_428 ?_
    refine wm_aload_n C rfl dL_law_430 ?_
    refine wm_ld C hA hX hbl hL 1 (by omega) rfl rfl rfl dL_law_431 dL_law_432 dL_law_434 dL_law_435 dL_law_436 ?_
    refine wm_cVI1 C vqL_64 (tX6_at (d := 0) hF hD hR) hF.1 ⟨by decide, by decide⟩ (Nat.le_of_ble_eq_true rfl) ⟨by show _ ≤ 601024; omega, by show _ ≤ 7293034; omega⟩ dL_law_437 (fun r I1 hr => ?_)
    obtain ⟨d1, d2, d3, d4⟩ := hr
    have hth : I1 (o + 29) 0 = 1 := by
      rcases d4 with ⟨-, z⟩ | ⟨x, z, -⟩
      · exact z
      · rw [ha] at z; cases z
    refine wm_istore C (by decide) dL_law_440 ?_
    refine wm_aload_n C rfl dL_law_442 ?_
    refine wm_cVI0 C vqL_65 (tX6_thrown (d := 0) hF) hF.1 ⟨by decide, by decide⟩ (Nat.le_of_ble_eq_true rfl) ⟨by show _ ≤ 601024; omega, by show _ ≤ 7293034; omega⟩ dL_law_443 (fun r2 I2 hr2 => ?_)
    obtain ⟨rfl, rfl⟩ := hr2
    refine wm_iload C (x := 1) rfl dL_law_446 ?_
    refine wm_icmp_eq C 453 dL_law_448 (by decide) (fun _ => ?_) (fun z => absurd hth z)
    refine wm_iload C (x := 1) rfl dL_law_453 ?_
    refine wm_if_ne C 470 dL_law_455 (by decide) (fun _ => ?_) (fun z => absurd z (by decide))
    refine wm_goto C 560 dL_law_470 ?_ (by decide)
    refine wm_pick [0, 1, 2, 3, 4] rfl ?_
    exact wm_widen (by omega) (by omega) (kk _ _ _ _ _ _ D res ring cp mt ⟨_, _, _, (h1.mono (Nat.le_succ _)).offRef d3, h2.offRef d3, hF, d1, d2, hW, hw1, hw2⟩)
  · refine wm_istore C (x := 0) (st := []) (by decide) dL_law_428 ?_
    refine wm_aload_n C rfl dL_law_430 ?_
    refine wm_ld C hA hX hbl hL 1 (by omega) rfl rfl rfl dL_law_431 dL_law_432 dL_law_434 dL_law_435 dL_law_436 ?_
    refine wm_cVI1 C vqL_64 (tX6_at (d := 0) hF hD hR) hF.1 ⟨by decide, by decide⟩ (Nat.le_of_ble_eq_true rfl) ⟨by show _ ≤ 601024; omega, by show _ ≤ 7293034; omega⟩ dL_law_437 (fun r I1 hr => ?_)
    obtain ⟨d1, d2, d3, d4⟩ := hr
    obtain ⟨hth, hrx⟩ : I1 (o + 29) 0 = 0 ∧ r = x.1 := by
      rcases d4 with ⟨z, -⟩ | ⟨x', z, z2, z3⟩
      · rw [ha] at z; cases z
      · rw [ha] at z; cases z; exact ⟨z2, z3⟩
    subst hrx
    refine wm_istore C (by decide) dL_law_440 ?_
    refine wm_aload_n C rfl dL_law_442 ?_
    refine wm_cVI0 C vqL_65 (tX6_thrown (d := 0) hF) hF.1 ⟨by decide, by decide⟩ (Nat.le_of_ble_eq_true rfl) ⟨by show _ ≤ 601024; omega, by show _ ≤ 7293034; omega⟩ dL_law_443 (fun r2 I2 hr2 => ?_)
    obtain ⟨rfl, rfl⟩ := hr2
    refine wm_iload C (x := 0) rfl dL_law_446 ?_
    refine wm_icmp_eq C 453 dL_law_448 (by decide) (fun _ => ?_) (fun z => absurd hth z)
    refine wm_iload C (x := 0) rfl dL_law_453 ?_
    refine wm_if_ne C 470 dL_law_455 (by decide) (fun z => absurd rfl z) (fun _ => ?_)
    refine wm_aload_n C rfl dL_law_458 ?_
    refine wm_iconst C 0 dL_law_459 ?_ (by decide)
    refine wm_lald C hw1 (by rw [hw2]; exact vp_in_nI (show 0 < 1 by omega) (by decide)) dL_law_460 ?_
    rw [show Int32.toNatClampNeg 0 = 0 from rfl, u2_self]
    refine wm_iload C (x := x.1) rfl dL_law_461 ?_
    refine wm_i2l C dL_law_463 ?_
    refine wm_lcmp C dL_law_464 ?_
    refine wm_if_eq C 470 dL_law_465 (by decide) (fun _ => ?_) (fun z => absurd (by simp [lg_cmp]) z)
    refine wm_goto C 560 dL_law_470 ?_ (by decide)
    refine wm_pick [0, 1, 2, 3, 4] rfl ?_
    exact wm_widen (by omega) (by omega) (kk _ _ _ _ _ _ D res ring cp mt ⟨_, _, _, h1.offRef d3, h2.offRef d3, hF, d1, d2, hW, hw1, hw2⟩)
end CASE9
