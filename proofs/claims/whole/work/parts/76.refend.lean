/-! the reference: end -/
theorem stkAt.off {I I' : TI} {q : Nat} {rs fs : Nat → Prop} {stk : List FrT} (hs : stkAt I q stk) (h : offE I I' q rs fs) (hr : ∀ k, k < stk.length → ¬ rs k) : stkAt I' q stk := fun k f hk => by
  have hkl := (List.getElem?_eq_some_iff.mp hk).1
  obtain ⟨a1, a2, a3, a4⟩ := hs k f hk
  exact ⟨by rw [h.1 _ (by omega) (by omega)]; exact a1, by rw [h.1 _ (by omega) (by omega)]; exact a2, by rw [h.1 _ (by omega) (by omega)]; exact a3, h.row (hr k hkl) a4⟩
theorem stkAt.left {I : TI} {q : Nat} {a b : List FrT} (h : stkAt I q (a ++ b)) : stkAt I q a := fun k f hk => h k f (by
  rw [List.getElem?_append_left (List.getElem?_eq_some_iff.mp hk).1]; exact hk)
theorem stkAt.snoc {I : TI} {q : Nat} {a : List FrT} {f : FrT} (h : stkAt I q a) (hf : frAt I q a.length f) : stkAt I q (a ++ [f]) := fun k g hk => by
  by_cases hkl : k < a.length
  · rw [List.getElem?_append_left hkl] at hk
    exact h k g hk
  · rw [List.getElem?_append_right (by omega)] at hk
    have hk0 : k = a.length := by
      have := (List.getElem?_eq_some_iff.mp hk).1
      simp at this; omega
    subst hk0
    simp at hk
    subst hk
    exact hf
theorem stkAt.top {I : TI} {q : Nat} {a : List FrT} {f : FrT} (h : stkAt I q (a ++ [f])) : frAt I q a.length f := h a.length f (by simp)
theorem offE.rg {I I' : TI} {q : Nat} {rs fs : Nat → Prop} (h : offE I I' q rs fs) (hf : ¬ fs 32) : offRg I I' q := ⟨h.ref, h.2.1 32 hf⟩
section REND
variable {p : Program} {l : Launch} {e : Env} {s : State} {m : MethodId} {args : Array Value} {below : List Frame} {meth : Method} {c : Code} {G : Gx} {d : Nat} {K N : TK} {I : TI} {R : TR} {L : TL} {sz q : Nat} {D : Dt} {φ : Int32 → TI → Prop} {ψ : TI → Prop}
def f78 (k : Nat) : Prop := k = 27 ∨ k = 28
theorem end31x (C : Cx p s m args meth c (AM K sz) G RX6 cX6_end 5) (hr : meth.sig.returnType = none) {r j : Nat} {x2 : Int32} (hF : RefF K N R q) (hr14 : r ≤ 14) (hf : ¬ I q 28 = 0) (hψ : ψ (u2 I q 27 (I q 27 - 1))) : WV p l e s m args below meth c G (d + 1) ψ K N R L sz 5 31 [(0, .ref q), (1, .int (nI r)), (2, .int x2), (3, .int (nI j))] I := by
  have f20 := hF.2 20 (by decide) (by decide)
  exact vX6_end_31 C hr ⟨hF.1, q + 20, f20.1, f20.2.1, by rw [f20.2.2]; exact vp_in_nI (show r < 15 by omega) (by decide), fun _ I6 e6 => by rw [e6]; exact hψ, fun _ => ⟨fun _ I7 e7 => by rw [e7]; exact hψ, fun z => absurd z hf⟩⟩
theorem end31 (C : Cx p s m args meth c (AM K sz) G RX6 cX6_end 5) (hr : meth.sig.returnType = none) {r sn : Nat} {T : List It} {hid : Bool} (hF : RefF K N R q) (hr1 : 1 ≤ r) (hr13 : r ≤ 13) (hsn : sn ≤ 60) :
    ∀ (k j : Nat) (out : List It) (I : TI), k + j = T.length → I (q + 8) sn = b2i hid → RefRow I q r T → RefRow I q (r - 1) out → I q 28 = 0 → I q 27 = nI (r + 1) → (∀ I', offE I I' q (· = r - 1) f78 → I' q 27 = nI r → (out.length + (T.length - j) ≤ 300 → I' q 28 = 0 → RefRow I' q (r - 1) (out ++ (T.drop j).map (upIt hid)) → ψ I') ∧ (300 < out.length + (T.length - j) → I' q 28 = -3 → ψ I')) → WV p l e s m args below meth c G (d + 1) ψ K N R L sz 5 31 [(0, .ref q), (1, .int (nI r)), (2, .int (nI sn)), (3, .int (nI j))] I
  | 0, j, out, I, hk, h8, hT, ho, h28, h27, hψ => by
    have h3 := hT.2.1
    have h4 := ho.2.1
    have f20 := hF.2 20 (by decide) (by decide)
    refine vX6_end_31 C hr ⟨hF.1, q + 20, f20.1, f20.2.1, by rw [f20.2.2]; exact vp_in_nI (show r < 15 by omega) (by decide), ?_⟩
    rw [nI_clamp (by omega), hT.1]
    refine ⟨fun _ I6 e6 => ?_, fun z => absurd (nI_le (by omega) (by omega)) z⟩
    rw [h27, nI_pred] at e6
    have hoff : offE I I6 q (· = r - 1) f78 := by rw [e6]; exact offE.fld (Or.inl rfl)
    have hoff0 : offE I I6 q (fun _ => False) f78 := by rw [e6]; exact offE.fld (Or.inl rfl)
    refine (hψ I6 hoff (by rw [e6]; exact u2_self _ _ _ _)).1 (by omega) ((show I6 q 28 = I q 28 by rw [e6]; exact u2_nk _ _ (by decide)).trans h28) ?_
    rw [List.drop_eq_nil_of_le (by omega), List.map_nil, List.append_nil]
    exact hoff0.row (fun z => z) ho
  | k + 1, j, out, I, hk, h8, hT, ho, h28, h27, hψ => by
    have h3 := hT.2.1
    have h4 := ho.2.1
    have hj : j < T.length := by omega
    have hx : T[j]? = some T[j] := List.getElem?_eq_getElem hj
    have hd := List.drop_eq_getElem_cons hj
    have f20 := hF.2 20 (by decide) (by decide)
    have f8 := hF.2 8 (by decide) (by decide)
    have f14 := hF.2 14 (by decide) (by decide)
    have f15 := hF.2 15 (by decide) (by decide)
    have f16 := hF.2 16 (by decide) (by decide)
    have f17 := hF.2 17 (by decide) (by decide)
    have f18 := hF.2 18 (by decide) (by decide)
    have f19 := hF.2 19 (by decide) (by decide)
    have hin : vp_in ((302 : Int32) * nI r + nI j) 4530 := by rw [nI_302]; exact vp_in_nI (by omega) (by decide)
    have hcl : ((302 : Int32) * nI r + nI j).toNatClampNeg = 302 * r + j := by rw [nI_302]; exact nI_clamp (by omega)
    obtain ⟨e1, e2, e3, e4, e5, e6⟩ := hT.2.2 j _ hx
    have key : ∀ (v : Int32) (hv : v = if hid then 1 else T[j].2.2.2.2.2), ∃ φ36 : Int32 → TI → Prop, MtI l G yX6_put cX6_put 9 (some .boolean) d [.ref q, .int (nI (r - 1)), .int T[j].1, .int T[j].2.1, .int T[j].2.2.1, .int T[j].2.2.2.1, .int v, .int (T[j].2.2.2.2.1 + 1)] K N I R L sz φ36 ∧ ∀ (r38 : Int32) (I39 : TI), φ36 r38 I39 → WV p l e s m args below meth c G (d + 1) ψ K N R L sz 5 31 [(0, .ref q), (1, .int (nI r)), (2, .int (nI sn)), (3, .int (nI (j + 1)))] I39 := fun v hv => by
      refine ⟨_, tX6_put hF (by omega) ho, fun r38 I39 h38 => ?_⟩
      rcases h38 with ⟨hn, -, hoff, hrow⟩ | ⟨hn, -, rfl⟩
      · have hne : ¬ r = r - 1 := by omega
        have hoff' : offE I I39 q (· = r - 1) f78 := hoff.mono (fun _ z => z) (fun _ z => z.elim)
        refine end31 C hr hF hr1 hr13 hsn k (j + 1) (out ++ [upIt hid T[j]]) I39 (by omega) ((congrFun (hoff.1 (q + 8) (by omega) (by omega)) sn).trans h8) (hoff.row hne hT) (by rw [hv] at hrow; exact hrow) ((hoff.2.1 28 (fun z => z)).trans h28) ((hoff.2.1 27 (fun z => z)).trans h27) (fun I' hI hI27 => ?_)
        have h5 := hψ I' (hoff'.tr hI) hI27
        rw [hd] at h5
        refine ⟨fun y1 y2 y3 => h5.1 (by simp at y1; omega) y2 ?_, fun y1 y2 => h5.2 (by simp at y1; omega) y2⟩
        rw [List.append_assoc] at y3
        exact y3
      · have h27' : u2 I q 28 (-3) q 27 = nI (r + 1) := by rw [u2_nk _ _ (by decide)]; exact h27
        refine end31x C hr hF (by omega) (by rw [u2_self]; decide) ?_
        rw [h27', nI_pred]
        refine (hψ _ ((offE.fld (Or.inr rfl)).tr (offE.fld (Or.inl rfl))) (u2_self _ _ _ _)).2 (by omega) ?_
        rw [u2_nk _ _ (by decide), u2_self]
    refine vX6_end_31 C hr ⟨hF.1, q + 20, f20.1, f20.2.1, by rw [f20.2.2]; exact vp_in_nI (show r < 15 by omega) (by decide), ?_⟩
    rw [nI_clamp (show r < 2 ^ 31 by omega), hT.1, hcl, nI_clamp (show sn < 2 ^ 31 by omega)]
    refine ⟨fun z => absurd z (nI_ge hj (by omega)), fun _ => ⟨fun z => absurd h28 z, fun _ => ⟨q + 14, f14.1, f14.2.1, by rw [f14.2.2]; exact hin, q + 15, f15.1, f15.2.1, by rw [f15.2.2]; exact hin, q + 16, f16.1, f16.2.1, by rw [f16.2.2]; exact hin, q + 17, f17.1, f17.2.1, by rw [f17.2.2]; exact hin, q + 8, f8.1, f8.2.1, by rw [f8.2.2]; exact vp_in_nI (show sn < 61 by omega) (by decide), ?_⟩⟩⟩
    rw [h8, e1, e2, e3, e4, nI_1, show nI r - 1 = nI (r - 1) by rw [show (1 : Int32) = nI 1 from rfl, pk_sub hr1]]
    refine ⟨fun z => ⟨q + 18, f18.1, f18.2.1, by rw [f18.2.2]; exact hin, q + 19, f19.1, f19.2.1, by rw [f19.2.2]; exact hin, ?_⟩, fun z => ⟨q + 19, f19.1, f19.2.1, by rw [f19.2.2]; exact hin, ?_⟩⟩
    · rw [b2i_eq0] at z
      rw [e5, e6]
      exact key _ (by rw [z]; rfl)
    · rw [b2i_ne0] at z
      rw [e5]
      exact key _ (by rw [z]; rfl)
/-- the end of a copied text -/
def AftEn (q : Nat) (D : Dt) (stk : List FrT) (f : FrT) (r : ResT) (I I' : TI) : Prop := offRg I I' q ∧ (r.1 = 0 → RunAt I' q D (stk ++ [(f.1, f.2.1, f.2.2.1, r.2.1)]) r.2.2.1 r.2.2.2.1) ∧ (r.1 ≠ 0 → FltAt I' q D r)
theorem tX6_end {stk : List FrT} {f : FrT} {t' i' s0 : Nat} {st : Stt} {row : List It} {cp mt : Int32} (hF : RefF K N R q) (hwf : WfD D) (h : RunAt I q D ((stk ++ [f]) ++ [(t', i', s0 + 1, row)]) cp mt) (hl : stk.length + 2 ≤ 14) (hst : D.2.2.1[s0]? = some st) (hok : ∀ y ∈ row, okR D y) : MtV l G yX6_end cX6_end 5 none (d + 4) [.ref q] K N I R L sz (AftEn q D stk f (addR f.2.2.2 (cpE st cp (matchS D st.2.2.2 row.length row [] mt))) I) := by
  obtain ⟨hD, i27, i28, i29, i30, i31, hs⟩ := id h
  have hs60 : s0 < 60 := by have := (List.getElem?_eq_some_iff.mp hst).1; have := hD.1.2.2.2.2.1; omega
  have f23 := hF.2 23 (by decide) (by decide)
  have htop := hs.top
  have hlen : (stk ++ [f]).length = stk.length + 1 := by simp
  rw [hlen] at htop
  have hs1 : stkAt I q (stk ++ [f]) := hs.left
  have hf := hs1.top
  have h27 : I q 27 = nI (stk.length + 1 + 1) := by rw [i27]; simp
  have hps : psOf D (s0 + 1) = st.2.2.2 := by unfold psOf phS; rw [if_neg (by omega), Nat.add_sub_cancel, hst]; rfl
  have hmt : mtS D (s0 + 1) row mt = matchS D st.2.2.2 row.length row [] mt := by unfold mtS; rw [if_neg (by omega), hps]
  refine sX6_end (d := d + 3) (fun p e s m args below meth c C hr => ⟨hF.1, q + 23, f23.1, f23.2.1, by rw [f23.2.2, h27, nI_pred]; exact vp_in_nI (show stk.length + 1 < 15 by omega) (by decide), ?_⟩)
  rw [h27, nI_pred, nI_clamp (by omega), htop.2.2.1]
  refine ⟨_, tX6_match hF hD hwf (by show s0 + 1 ≤ 60; omega) (by omega) htop.2.2.2 hok i28, fun I9 h9 => ?_⟩
  obtain ⟨g1, g2, g3, g4⟩ := h9
  simp only at g2 g3 g4
  rw [i30, hmt] at g2 g3 g4
  generalize matchS D st.2.2.2 row.length row [] mt = M at *
  have n27 : I9 q 27 = nI (stk.length + 1 + 1) := (g1.2.1 27 (by unfold fS; omega)).trans h27
  have n29 : I9 q 29 = cp := (g1.2.1 29 (by unfold fS; omega)).trans i29
  have n31 : I9 q 31 = 0 := (g1.2.1 31 (by unfold fS; omega)).trans i31
  have hD9 : RefD I9 q D := g1.dat (fun k y => by unfold fS at y; omega) hD
  have ho9 : offRg I I9 q := g1.rg (by unfold fS; omega)
  have hs9 : stkAt I9 q (stk ++ [f]) := hs1.off g1 (fun k hk => by rw [hlen] at hk; omega)
  refine ⟨fun _ => ?_, fun z => absurd z (by rw [n27, show (1 : Int32) = nI 1 from rfl, nI_eq (by omega) (by decide)]; omega)⟩
  by_cases hM : M.1 = 0
  · have hcE : cpE st cp M = (0, M.2.1.map (upIt st.2.2.1), cp, M.2.2, []) := by unfold cpE; rw [if_pos hM]
    have h8 : I9 (q + 8) (s0 + 1) = b2i st.2.2.1 := (hD9.2.2.2.1.1 s0 st hst).2.2
    have hf9 := hs9.top
    refine end31 (d := d + 3) C hr (r := stk.length + 1) (sn := s0 + 1) (T := M.2.1) (hid := st.2.2.1) hF (by omega) (by omega) (by omega) M.2.1.length 0 f.2.2.2 I9 (by omega) h8 (g4 hM) (by rw [Nat.add_sub_cancel]; exact hf9.2.2.2) (g3.trans hM) n27 (fun I' hI hI27 => ?_)
    rw [Nat.add_sub_cancel] at hI
    rw [List.drop_zero, Nat.sub_zero, Nat.add_sub_cancel]
    have hoff : offRg I I' q := ho9.tr (hI.rg (by unfold f78; omega))
    have hD' : RefD I' q D := hI.dat (fun k y => by unfold f78 at y; omega) hD9
    have m29 : I' q 29 = cp := (hI.2.1 29 (by unfold f78; omega)).trans n29
    have m30 : I' q 30 = M.2.2 := (hI.2.1 30 (by unfold f78; omega)).trans g2
    have m31 : I' q 31 = 0 := (hI.2.1 31 (by unfold f78; omega)).trans n31
    unfold AftEn
    rw [hcE]
    unfold addR
    simp only [if_true, List.length_map]
    refine ⟨fun y1 y2 y3 => ?_, fun y1 y2 => ?_⟩
    · rw [if_pos y1]
      refine ⟨hoff, fun _ => ⟨hD', by rw [hI27]; simp, y2, m29, m30, m31, ?_⟩, fun z => absurd rfl z⟩
      refine (hs9.left.off hI (fun k hk => by omega)).snoc ⟨?_, ?_, ?_, y3⟩
      · rw [hI.1 _ (by omega) (by omega)]; exact hf9.1
      · rw [hI.1 _ (by omega) (by omega)]; exact hf9.2.1
      · rw [hI.1 _ (by omega) (by omega)]; exact hf9.2.2.1
    · rw [if_neg (by omega)]
      exact ⟨hoff, fun z => absurd z (show ¬ (-3 : Int32) = 0 by decide), fun _ => ⟨hD', y2, m29, m30, m31, by simp, ListAt.nil⟩⟩
  · have hcE : cpE st cp M = (M.1, [], cp, M.2.2, []) := by unfold cpE; rw [if_neg hM]
    refine end31x (d := d + 3) C hr (r := stk.length + 1) (j := 0) hF (by omega) (by rw [g3]; exact hM) ?_
    have hI : offE I9 (u2 I9 q 27 (I9 q 27 - 1)) q (fun _ => False) f78 := offE.fld (Or.inl rfl)
    unfold AftEn
    rw [hcE]
    unfold addR
    rw [if_neg hM]
    exact ⟨ho9.tr (hI.rg (by unfold f78; omega)), fun z => absurd z hM, fun _ => ⟨hI.dat (fun k y => by unfold f78 at y; omega) hD9, (u2_nk I9 (I9 q 27 - 1) (by decide)).trans g3, (hI.2.1 29 (by unfold f78; omega)).trans n29, (hI.2.1 30 (by unfold f78; omega)).trans g2, (hI.2.1 31 (by unfold f78; omega)).trans n31, by simp, ListAt.nil⟩⟩
/-- the end of the source -/
theorem tX6_end1 {i' : Nat} {row : List It} {cp mt : Int32} (hF : RefF K N R q) (hwf : WfD D) (h : RunAt I q D [(0, i', 0, row)] cp mt) (hok : ∀ y ∈ row, okR D y) : MtV l G yX6_end cX6_end 5 none (d + 4) [.ref q] K N I R L sz (fun I' => AftMt q 0 (matchC D row.length [] row [] mt) I I') := by
  obtain ⟨hD, i27, i28, i29, i30, i31, hs⟩ := id h
  have f23 := hF.2 23 (by decide) (by decide)
  have htop := hs 0 _ rfl
  have h27 : I q 27 = nI (0 + 1) := i27
  refine sX6_end (d := d + 3) (fun p e s m args below meth c C hr => ⟨hF.1, q + 23, f23.1, f23.2.1, by rw [f23.2.2, h27, nI_pred]; exact vp_in_nI (show 0 < 15 by omega) (by decide), ?_⟩)
  rw [h27, nI_pred, nI_clamp (by omega), htop.2.2.1]
  refine ⟨_, tX6_match hF hD hwf (by show 0 ≤ 60; omega) (by omega) htop.2.2.2 hok i28, fun I9 h9 => ?_⟩
  have n27 : I9 q 27 = nI (0 + 1) := (h9.1.2.1 27 (by unfold fS; omega)).trans h27
  refine ⟨fun z => absurd n27 z, fun _ => ?_⟩
  have hmt : mtS D 0 row mt = matchC D row.length [] row [] mt := by unfold mtS; rw [if_pos rfl]
  rw [i30] at h9
  simp only at h9
  rw [hmt] at h9
  exact h9
end REND
