/-! the class: run -/
theorem entS_fault {cpf : Nat → Int32 → Int32 → ResT} {t : Nat} : ∀ (i : Nat) (es : List Int32) (out : List It) (cp mt : Int32), (entS cpf t i es out cp mt).1 ≠ 0 → (entS cpf t i es out cp mt).2.1 = []
  | _, [], out, cp, mt, h => absurd rfl h
  | i, e :: es, out, cp, mt, h => by
    unfold entS at h ⊢
    cases hm : cpOf e with
    | none =>
      rw [hm] at h
      simp only at h ⊢
      split at h
      · rw [if_pos (by assumption)]; exact entS_fault _ _ _ _ _ h
      · rw [if_neg (by assumption)]
    | some s =>
      rw [hm] at h
      simp only at h ⊢
      split at h
      · rename_i h1
        rw [if_pos h1]
        split at h
        · rename_i h2
          rw [if_pos h2]
          exact entS_fault _ _ _ _ _ h
        · rename_i h2
          rw [if_neg h2]
      · rename_i h1
        rw [if_neg h1]
theorem matchC_pl {D : Dt} (hl : D.2.2.1.length ≤ 60) (hwf : WfD D) : ∀ (n : Nat) (ps : List Nat) (l out : List It) (mt : Int32), (∀ y ∈ l, okR D y) → (∀ y ∈ out, plOk y.1 = true) → ∀ y ∈ (matchC D n ps l out mt).2.1, plOk y.1 = true
  | 0, _, _, _, _, _, h => h
  | _ + 1, _, [], _, _, _, h => h
  | n + 1, ps, x :: t, out, mt, hl2, h => by
    have hx := hl2 x List.mem_cons_self
    have ht : ∀ y ∈ t, okR D y := fun y hy => hl2 y (List.mem_cons_of_mem _ hy)
    unfold matchC
    split
    · exact matchC_pl hl hwf n _ _ _ _ ht h
    · rename_i hc
      have hs := stepS_all hl hwf (P := fun y => plOk y.1 = true) (ps := ps) (t := t) (mt := mt) hx (hx.pl hc hl) (fun c p q => q) h
      have hr := stepS_rest hwf (ps := ps) (x := x) (t := t) (out := out) (mt := mt) ht
      split
      · exact matchC_pl hl hwf n _ _ _ _ hr hs
      · exact hs
def mapR (f : It → It) (M : Int32 × List It × Int32) : Int32 × List It × Int32 := (M.1, M.2.1.map f, M.2.2)
theorem lf0 {x : It} (h : plOk x.1 = true) : lf 0 false x = x := by
  unfold lf
  rw [cv_ge (pl_ge h)]
  simp only [show nI 0 = 0 from rfl, Int32.add_zero]
  rfl
theorem cut_by {D : Dt} (hl : D.2.2.1.length ≤ 60) {sa : Nat → Nat} {x : It} (h : okR D x) (hc : x.1 < -1) : byIs D sa (if (-100) ≤ cv x.1 then none else (nOf D.2.2.1.length (-100 - cv x.1)).map sa) (cutP D x.1) := by
  rcases h with h | h | ⟨s, st, h1, h2, h3⟩
  · exact absurd hc (pl_ge h)
  · refine Or.inl ⟨?_, ?_⟩
    · rw [h, if_pos (by decide)]
    · unfold cutP; rw [if_pos h]
  · have hs := (List.getElem?_eq_some_iff.mp h1).1
    have q1 := st_lt (s + 1) (by omega) (by omega)
    refine Or.inr ⟨s, st, h1, ?_, ?_⟩
    · rw [h3, q1.2.2.2.1, if_neg q1.2.2.2.2.2.2.1, q1.2.2.2.2.2.2.2.1, nOf_nI (by omega) hs]; rfl
    · unfold cutP
      rw [h3, if_neg q1.2.2.1, q1.2.2.2.2.2.1, nI_clamp (by omega), Nat.add_sub_cancel, h1]
theorem seg_map {t : List It} {f : It → It} {a b : Nat} : seg (t.map f) a b = (seg t a b).map f := by
  unfold seg; rw [← List.map_take, ← List.map_drop]
theorem seg_mem {t : List It} {a b : Nat} {y : It} (h : y ∈ seg t a b) : y ∈ t := List.mem_of_mem_take (List.mem_of_mem_drop h)
theorem seg_snoc {t : List It} {a b : Nat} {x : It} (hab : a ≤ b) (hx : t[b]? = some x) : seg t a (b + 1) = seg t a b ++ [x] := by
  unfold seg
  have hb : b < t.length := (List.getElem?_eq_some_iff.mp hx).1
  rw [List.take_add_one, hx, List.drop_append_of_le_length (by simp; omega)]
  rfl
theorem seg_split {t : List It} {a b : Nat} {x : It} (hab : a ≤ b) (hx : t[b]? = some x) : t.drop a = seg t a b ++ x :: t.drop (b + 1) := by
  have hb : b < t.length := (List.getElem?_eq_some_iff.mp hx).1
  have h1 : t.drop a = (t.take b ++ t.drop b).drop a := by rw [List.take_append_drop]
  rw [h1, List.drop_append_of_le_length (by simp; omega), List.drop_eq_getElem_cons hb]
  have : t[b] = x := (List.getElem?_eq_some_iff.mp hx).2
  rw [this]; rfl
section RUN
variable {p : Program} {l : Launch} {e : Env} {s : State} {m : MethodId} {args : Array Value} {below : List Frame} {meth : Method} {c : Code} {G : Gx} {d : Nat} {K N : TK} {I : TI} {R : TR} {L : TL} {sz : Nat} {φ : Int32 → TI → Prop} {o : Nat} {tx sa pa : Nat → Nat} {D : Dt}
theorem cut_loop (C : Cx p s m args meth c (AM K sz) G RX5 cX5_matchByReplaces 7) (hr : meth.sig.returnType = (some .int)) {q : Nat} {f : It → It} {rl : List It} (hf : f = lf 0 false) (hwf : WfD D) (hQ : rowP K N R q) (hql : o + 21 ≤ q) (hok : ∀ y ∈ rl, okZ D y) :
    ∀ (k i st n : Nat) (by0 : Option Nat) (ps : List Nat) (out : List It) (I : TI), k + i = rl.length → st ≤ i → rl.length - st ≤ n → (∀ y ∈ seg rl st i, ¬ y.1 < -1) → ClsRep K N I R o sz tx sa pa D → byIs D sa by0 ps → RowIs I (o + 12) (out.map f) → RowIs I q (rl.map f) → (∀ v I', AftM o (o + 12) (mapR f (matchC D n ps (rl.drop st) out (I o 12))) I v I' → φ v I') → WI p l e s m args below meth c G (d + 5) φ K N R L sz 7 7 [(0, .ref o), (1, .ref q), (2, va_rf by0), (3, .int (nI st)), (4, .int (nI i))] I
  | 0, i, st, n, by0, ps, out, I, hk, hsi, hn, hnc, h, hb, ho, hq, hφ => by
    have hi : i = rl.length := by omega
    have h3 := hq.2.1
    rw [List.length_map] at h3
    have hl60 := h.2.1.2.2.2.2.1
    have hR := h.1.2.2.2.2.2.2.1
    have h6 : I q 6 = nI i := by rw [hq.1, List.length_map, hi]
    have hLF : LF D f := by rw [hf]; exact lf_LF hl60 _ _
    refine vX5_matchByReplaces_7 (d := d + 4) C hr ⟨hQ.1, fun z => absurd z (by rw [h6, nI_ltI (by omega) (by omega)]; omega), fun _ => ⟨fun z => absurd h6.symm z, fun _ => ⟨h.1.1, o + 12, hR.1, ?_⟩⟩⟩
    have hmp := tX5_matchPart (l := l) (G := G) (d := d) (L := L) (i := st) (en := i) (by0 := by0) (ps := ps) h hwf (Or.inr rfl) hR.2 ho hQ hq hql hsi (by rw [List.length_map]; omega) (fun y hy => by
      obtain ⟨w, hw1, rfl⟩ := List.mem_map.mp hy
      rw [hf]; exact lf_okI hl60 (hok w hw1).1) hb
    rw [seg_map, matchS_map hl60 hwf hLF _ _ _ _ (fun y hy => (hok y (seg_mem hy)).1)] at hmp
    refine ⟨_, hmp, fun r46 I47 h46 => ?_⟩
    have hseg : rl.drop st = seg rl st i := by unfold seg; rw [hi, List.take_length]
    have hv := hφ r46 I47 (by
      rw [hseg, matchC_end hwf n (i - st) (seg rl st i) out (I o 12) hnc (by rw [seg_len (by omega)]; omega) (by rw [seg_len (by omega)]; omega)]
      exact h46)
    refine ⟨fun z => ?_, fun _ => hv⟩
    subst z
    have hq47 : RowIs I47 q (rl.map f) := h46.1.row hq (Or.inl (by omega)) (by omega)
    refine vX5_matchByReplaces_7 (d := d + 4) C hr ⟨hQ.1, fun _ => hv, fun z => absurd (by rw [nI_1, hq47.1, List.length_map, nI_ltI (by omega) (by omega)]; omega) z⟩
  | k + 1, i, st, n, by0, ps, out, I, hk, hsi, hn, hnc, h, hb, ho, hq, hφ => by
    have hi : i < rl.length := by omega
    have h3 := hq.2.1
    rw [List.length_map] at h3
    have hl60 := h.2.1.2.2.2.2.1
    have hR := h.1.2.2.2.2.2.2.1
    have h6 : I q 6 = nI rl.length := by rw [hq.1, List.length_map]
    have hLF : LF D f := by rw [hf]; exact lf_LF hl60 _ _
    obtain ⟨x, hx⟩ : ∃ x, rl[i]? = some x := ⟨_, List.getElem?_eq_getElem hi⟩
    have hxm : (rl.map f)[i]? = some (f x) := by rw [List.getElem?_map, hx]; rfl
    have hxo := hok x (List.mem_of_getElem? hx)
    have hfx : (f x).1 = cv x.1 := by rw [hf]; rfl
    refine vX5_matchByReplaces_7 (d := d + 4) C hr ⟨hQ.1, fun z => absurd z (by rw [h6, nI_ltI (by omega) (by omega)]; omega), fun _ => ⟨fun _ => ⟨_, tX1_code hQ hq hxm, fun r4 I5 h4 => ?_⟩, fun z => absurd z (by rw [h6, nI_eq (by omega) (by omega)]; omega)⟩⟩
    obtain ⟨rfl, h4⟩ := h4
    obtain rfl := h4.symm
    refine ⟨fun z => ⟨h.1.1, o + 12, hR.1, ?_⟩, fun z => ?_⟩
    · have hc : x.1 < -1 := Classical.byContradiction fun zz => by
        rw [hfx, cv_ge zz] at z; exact zz z
      have hmp := tX5_matchPart (l := l) (G := G) (d := d) (L := L) (i := st) (en := i) (by0 := by0) (ps := ps) h hwf (Or.inr rfl) hR.2 ho hQ hq hql hsi (by rw [List.length_map]; omega) (fun y hy => by
        obtain ⟨w, hw1, rfl⟩ := List.mem_map.mp hy
        rw [hf]; exact lf_okI hl60 (hok w hw1).1) hb
      rw [seg_map, matchS_map hl60 hwf hLF _ _ _ _ (fun y hy => (hok y (seg_mem hy)).1)] at hmp
      refine ⟨_, hmp, fun r16 I17 h16 => ?_⟩
      have hsp := seg_split hsi hx
      have hdl : (rl.drop (i + 1)).length = rl.length - (i + 1) := by simp
      rw [hsp, matchC_split hwf hc n (i - st) (rl.length - (i + 1)) (seg rl st i) out (I o 12) hnc (by rw [seg_len (by omega), hdl]; omega) (by rw [seg_len (by omega)]; omega) (by rw [hdl]; omega)] at hφ
      generalize matchS D ps (i - st) (seg rl st i) out (I o 12) = M at *
      obtain ⟨n1, n2, n3, n4⟩ := h16
      simp only at n2 n3 n4
      subst n2
      have hq17 : RowIs I17 q (rl.map f) := n1.row hq (Or.inl (by omega)) (by omega)
      have h17 : ClsRep K N I17 R o sz tx sa pa D := h.offM (Or.inr rfl) n1
      refine ⟨fun z0 => ⟨_, tX1_code hQ hq17 hxm, fun r25 I26 h25 => ?_⟩, fun z0 => ?_⟩
      · obtain ⟨rfl, h25⟩ := h25
        obtain rfl := h25.symm
        refine ⟨_, tX5_statementOf h17.1 h17.2.1 h17.2.2.2.1, fun r34 I35 h34 => ?_⟩
        obtain ⟨h34a, h34⟩ := h34
        obtain rfl := h34.symm
        have hby := cut_by hl60 (sa := sa) hxo.1 hc
        rw [← hfx, ← h34a] at hby
        rw [nI_1]
        refine cut_loop C hr hf hwf hQ hql hok k (i + 1) (i + 1) (rl.length - (i + 1)) r34 (cutP D x.1) M.2.1 I17 (by omega) (Nat.le_refl _) (Nat.le_refl _) (fun y hy => by rw [seg_nil (Nat.le_refl _)] at hy; cases hy) h17 hby (n4 z0) hq17 (fun v I' hv => hφ v I' ?_)
        unfold thenC
        rw [if_pos z0]
        rw [n3] at hv
        exact ⟨n1.tr hv.1, hv.2⟩
      · refine hφ _ I17 ?_
        unfold thenC
        rw [if_neg z0]
        exact ⟨n1, rfl, n3, fun zz => absurd zz z0⟩
    · have hc : ¬ x.1 < -1 := fun zz => z (by rw [hfx]; exact hxo.1.cv hl60 zz)
      rw [nI_1]
      refine cut_loop C hr hf hwf hQ hql hok k (i + 1) st n by0 ps out I (by omega) (by omega) hn (fun y hy => ?_) h hb ho hq hφ
      rw [seg_snoc hsi hx] at hy
      rcases List.mem_append.mp hy with w | w
      · exact hnc y w
      · rw [List.mem_singleton.mp w]; exact hc
theorem tX5_matchByReplaces {q : Nat} {rl : List It} (h : ClsRep K N I R o sz tx sa pa D) (hwf : WfD D) (hQ : rowP K N R q) (hql : o + 21 ≤ q) (hok : ∀ y ∈ rl, okZ D y) (ho : RowIs I (o + 12) []) (hq : RowIs I q (rl.map (lf 0 false))) : MtI l G yX5_matchByReplaces cX5_matchByReplaces 7 (some .int) (d + 5) [.ref o, .ref q] K N I R L sz (AftM o (o + 12) (matchC D rl.length [] rl [] (I o 12)) I) := by
  have hl60 := h.2.1.2.2.2.2.1
  refine sX5_matchByReplaces (d := d + 4) (fun p e s m args below meth c C hr => ?_)
  refine cut_loop C hr rfl hwf hQ hql hok rl.length 0 0 rl.length none [] [] I (by omega) (Nat.le_refl _) (by omega) (fun y hy => by rw [seg_nil (Nat.le_refl _)] at hy; cases hy) h (Or.inl ⟨rfl, rfl⟩) ho hq (fun v I' hv => ?_)
  rw [List.drop_zero] at hv
  have hpl := matchC_pl hl60 hwf rl.length [] rl [] (I o 12) (fun y hy => (hok y hy).1) (fun y hy => by cases hy)
  have hid : (matchC D rl.length [] rl [] (I o 12)).2.1.map (lf 0 false) = (matchC D rl.length [] rl [] (I o 12)).2.1 := by
    conv => rhs; rw [← List.map_id (matchC D rl.length [] rl [] (I o 12)).2.1]
    exact List.map_congr_left (fun y hy => lf0 (hpl y hy))
  unfold mapR at hv
  rw [hid] at hv
  exact hv
end RUN
