/-! the reference: textNamed, begin, copied -/
/-- a text that is being made: text, entry, statement, row -/
abbrev FrT : Type := Nat × Nat × Nat × List It
def frAt (I : TI) (q k : Nat) (f : FrT) : Prop := I (q + 21) k = nI f.1 ∧ I (q + 22) k = nI f.2.1 ∧ I (q + 23) k = nI f.2.2.1 ∧ RefRow I q k f.2.2.2
def stkAt (I : TI) (q : Nat) (stk : List FrT) : Prop := ∀ (k : Nat) (f : FrT), stk[k]? = some f → frAt I q k f
def RunAt (I : TI) (q : Nat) (D : Dt) (stk : List FrT) (cp mt : Int32) : Prop := RefD I q D ∧ I q 27 = nI stk.length ∧ I q 28 = 0 ∧ I q 29 = cp ∧ I q 30 = mt ∧ I q 31 = 0 ∧ stkAt I q stk
def FltAt (I : TI) (q : Nat) (D : Dt) (r : ResT) : Prop := RefD I q D ∧ I q 28 = r.1 ∧ I q 29 = r.2.2.1 ∧ I q 30 = r.2.2.2.1 ∧ I q 31 = nI r.2.2.2.2.length ∧ r.2.2.2.2.length ≤ 13 ∧ ListAt (I (q + 24)) r.2.2.2.2
/-- the texts of a stack: the source first, none twice -/
def opOk (D : Dt) (op : List Nat) : Prop := op.Nodup ∧ (∀ u ∈ op, u ≤ D.1.length) ∧ op[0]? = some 0
def offRg (I I' : TI) (q : Nat) : Prop := offRef I I' q ∧ I' q 32 = I q 32
theorem offRg.rf {I : TI} {q : Nat} : offRg I I q := ⟨fun _ _ => rfl, rfl⟩
theorem offRg.tr {I I' I'' : TI} {q : Nat} (h : offRg I I' q) (h2 : offRg I' I'' q) : offRg I I'' q := ⟨h.1.tr h2.1, h2.2.trans h.2⟩
theorem offRg.u {I : TI} {q k : Nat} {v : Int32} (h : k ≠ 32) : offRg I (u2 I q k v) q := ⟨offRef.u (by omega), u2_nk _ _ (fun z => h z.symm)⟩
theorem tNm_get {D : Dt} {x : Int32} {t : Nat} (h : tNm D x = some t) : ∃ j, t = j + 1 ∧ D.1[j]? = some x := by
  unfold tNm at h
  cases hf : D.1.findIdx? (fun y => y == x) with
  | none => rw [hf] at h; cases h
  | some j =>
    rw [hf] at h
    obtain ⟨h1, h2, h3⟩ := List.findIdx?_eq_some_iff_getElem.mp hf
    refine ⟨j, by simpa using h.symm, ?_⟩
    rw [List.getElem?_eq_getElem h1]
    simpa using h2
theorem dw_drop {t : Nat} : ∀ (op : List Nat) (k : Nat), op[k]? = some t → t ∉ op.take k → op.dropWhile (fun u => u != t) = op.drop k
  | [], k, h, _ => by simp at h
  | u :: op, 0, h, _ => by
    simp at h
    subst h
    simp
  | u :: op, k + 1, h, hn => by
    have h1 : ¬ u = t := fun z => hn (by rw [z]; simp)
    rw [List.dropWhile_cons_of_pos (by simp [h1]), List.drop_succ_cons]
    exact dw_drop op k (by simpa using h) (fun z => hn (by simp [z]))
def cpOk (cp : Int32) : Prop := ∃ n : Nat, n ≤ 100 ∧ cp = nI n
theorem cpOk.lt {cp : Int32} (h : cpOk cp) : cp < 100 ↔ ¬ cp = 100 := by
  obtain ⟨n, h1, rfl⟩ := h
  rw [show (100 : Int32) = nI 100 from rfl, nI_ltI (by omega) (by decide), nI_eq (by omega) (by decide)]
  omega
theorem cpOk.up {cp : Int32} (h : cpOk cp) (hl : cp < 100) : cpOk (cp + 1) := by
  obtain ⟨n, h1, rfl⟩ := h
  rw [show (100 : Int32) = nI 100 from rfl, nI_ltI (by omega) (by decide)] at hl
  exact ⟨n + 1, by omega, nI_1 n⟩
section RCOPY
variable {p : Program} {l : Launch} {e : Env} {s : State} {m : MethodId} {args : Array Value} {below : List Frame} {meth : Method} {c : Code} {G : Gx} {d : Nat} {K N : TK} {I : TI} {R : TR} {L : TL} {sz q : Nat} {D : Dt} {φ : Int32 → TI → Prop} {ψ : TI → Prop}
theorem rnamed_loop (C : Cx p s m args meth c (AM K sz) G RX6 cX6_textNamed 3) (hr : meth.sig.returnType = (some .int)) {x : Int32} (hF : RefF K N R q) (hD : RefD I q D) : ∀ (k j : Nat), k + j = D.1.length → φ ((((D.1.drop j).findIdx? (fun y => y == x)).map (fun i => nI (i + j + 1))).getD 0) I → WI p l e s m args below meth c G d φ K N R L sz 3 2 [(0, .ref q), (1, .int x), (2, .int (nI (j + 1)))] I
  | 0, j, hk, h => by
    have h12 := hD.1.2.2.2.1
    have hj : j = D.1.length := by omega
    rw [hj, List.drop_length] at h
    refine vX6_textNamed_2 C hr ⟨hF.1, fun _ => ⟨fun z => absurd z (by rw [hD.1.1]; exact nI_ge (by omega) (by omega)), fun _ => h⟩, fun z => absurd (by rw [hD.1.1, nI_ltI (by omega) (by omega)]; omega) z⟩
  | k + 1, j, hk, h => by
    have h12 := hD.1.2.2.2.1
    have hj : j < D.1.length := by omega
    have f1 := hF.2 1 (by decide) (by decide)
    have hv : I (q + 1) (j + 1) = D.1[j] := hD.2.1 j _ (List.getElem?_eq_getElem hj)
    rw [List.drop_eq_getElem_cons hj, List.findIdx?_cons] at h
    refine vX6_textNamed_2 C hr ⟨hF.1, fun z => absurd z (by rw [hD.1.1, nI_ltI (by omega) (by omega)]; omega), fun _ => ⟨q + 1, f1.1, f1.2.1, by rw [f1.2.2]; exact vp_in_nI (show j + 1 < 13 by omega) (by decide), ?_⟩⟩
    rw [nI_clamp (by omega), hv, nI_1]
    refine ⟨fun z => ⟨fun _ => ?_, fun y => absurd (by rw [hD.1.1]; exact nI_le (by omega) (by omega)) y⟩, fun z => ?_⟩
    · rw [if_pos (by simpa using z)] at h
      simpa using h
    · rw [if_neg (by simpa using z)] at h
      refine rnamed_loop C hr hF hD k (j + 1) (by omega) ?_
      simp only [Option.map_map] at h
      have he : ((fun i => nI (i + j + 1)) ∘ fun i => i + 1) = (fun i => nI (i + (j + 1) + 1)) := by funext i; simp only [Function.comp]; congr 1; omega
      rw [he] at h; exact h
theorem tX6_textNamed {x : Int32} (hF : RefF K N R q) (hD : RefD I q D) : MtI l G yX6_textNamed cX6_textNamed 3 (some .int) d [.ref q, .int x] K N I R L sz (fun v I' => v = ((tNm D x).map nI).getD 0 ∧ I' = I) := by
  refine sX6_textNamed (fun p e s m args below meth c C hr => rnamed_loop C hr hF hD D.1.length 0 (by omega) ⟨?_, rfl⟩)
  simp [tNm, Option.map_map, Function.comp_def]
theorem tX6_begin {t sn : Nat} {stk : List FrT} {cp mt : Int32} (hF : RefF K N R q) (h : RunAt I q D stk cp mt) (hl : stk.length ≤ 13) : MtV l G yX6_begin cX6_begin 3 none d [.ref q, .int (nI t), .int (nI sn)] K N I R L sz (fun I' => offRg I I' q ∧ RunAt I' q D (stk ++ [(t, 0, sn, [])]) cp mt) := by
  obtain ⟨hD, i27, i28, i29, i30, i31, hs⟩ := h
  have f20 := hF.2 20 (by decide) (by decide)
  have f21 := hF.2 21 (by decide) (by decide)
  have f22 := hF.2 22 (by decide) (by decide)
  have f23 := hF.2 23 (by decide) (by decide)
  have hin : vp_in (nI stk.length) 15 := vp_in_nI (by omega) (by decide)
  have hc : (nI stk.length).toNatClampNeg = stk.length := nI_clamp (by omega)
  refine sX6_begin ⟨hF.1, q + 21, f21.1, f21.2.1, by rw [f21.2.2, i27]; exact hin, fun I6 e6 => ?_⟩
  rw [i27, hc] at e6
  have j6 : I6 q 27 = nI stk.length := by rw [e6, u2_ne _ _ (by omega)]; exact i27
  refine ⟨q + 22, f22.1, f22.2.1, by rw [f22.2.2, j6]; exact hin, fun I11 e11 => ?_⟩
  rw [j6, hc] at e11
  have j11 : I11 q 27 = nI stk.length := by rw [e11, u2_ne _ _ (by omega)]; exact j6
  refine ⟨q + 23, f23.1, f23.2.1, by rw [f23.2.2, j11]; exact hin, fun I16 e16 => ?_⟩
  rw [j11, hc] at e16
  have j16 : I16 q 27 = nI stk.length := by rw [e16, u2_ne _ _ (by omega)]; exact j11
  refine ⟨q + 20, f20.1, f20.2.1, by rw [f20.2.2, j16]; exact hin, fun I21 e21 I22 e22 => ?_⟩
  rw [j16, hc] at e21
  have j21 : I21 q 27 = nI stk.length := by rw [e21, u2_ne _ _ (by omega)]; exact j16
  rw [j21, nI_1] at e22
  have hfar : ∀ a, a ≠ q → a ≠ q + 20 → a ≠ q + 21 → a ≠ q + 22 → a ≠ q + 23 → I22 a = I a := fun a y0 y1 y2 y3 y4 => by rw [e22, u2_ne _ _ y0, e21, u2_ne _ _ y1, e16, u2_ne _ _ y4, e11, u2_ne _ _ y3, e6, u2_ne _ _ y2]
  have hq : ∀ k, k ≠ 27 → I22 q k = I q k := fun k hk => by rw [e22, u2_nk _ _ hk, e21, u2_ne _ _ (by omega), e16, u2_ne _ _ (by omega), e11, u2_ne _ _ (by omega), e6, u2_ne _ _ (by omega)]
  have g20 : I22 (q + 20) = va_up (I (q + 20)) stk.length 0 := by rw [e22, u2_ne _ _ (by omega), e21, u2_at, e16, u2_ne _ _ (by omega), e11, u2_ne _ _ (by omega), e6, u2_ne _ _ (by omega)]
  have g21 : I22 (q + 21) = va_up (I (q + 21)) stk.length (nI t) := by rw [e22, u2_ne _ _ (by omega), e21, u2_ne _ _ (by omega), e16, u2_ne _ _ (by omega), e11, u2_ne _ _ (by omega), e6, u2_at]
  have g22 : I22 (q + 22) = va_up (I (q + 22)) stk.length 0 := by rw [e22, u2_ne _ _ (by omega), e21, u2_ne _ _ (by omega), e16, u2_ne _ _ (by omega), e11, u2_at, e6, u2_ne _ _ (by omega)]
  have g23 : I22 (q + 23) = va_up (I (q + 23)) stk.length (nI sn) := by rw [e22, u2_ne _ _ (by omega), e21, u2_ne _ _ (by omega), e16, u2_at, e11, u2_ne _ _ (by omega), e6, u2_ne _ _ (by omega)]
  refine ⟨⟨fun a ha => hfar a (by omega) (by omega) (by omega) (by omega) (by omega), hq 32 (by decide)⟩, hD.mv (hq 1 (by decide)) (hq 2 (by decide)) (hq 3 (by decide)) (fun c y1 y2 => hfar _ (by omega) (by omega) (by omega) (by omega) (by omega)), by rw [e22, u2_self]; simp, (hq 28 (by decide)).trans i28, (hq 29 (by decide)).trans i29, (hq 30 (by decide)).trans i30, (hq 31 (by decide)).trans i31, fun k f hk => ?_⟩
  by_cases hkl : k < stk.length
  · rw [List.getElem?_append_left hkl] at hk
    obtain ⟨a1, a2, a3, a4, a5, a6⟩ := hs k f hk
    have hne : k ≠ stk.length := by omega
    refine ⟨by rw [g21, va_up_ne _ _ hne]; exact a1, by rw [g22, va_up_ne _ _ hne]; exact a2, by rw [g23, va_up_ne _ _ hne]; exact a3, by rw [g20, va_up_ne _ _ hne]; exact a4, a5, fun j x hx => ?_⟩
    have := a6 j x hx
    unfold rfAt at this ⊢
    rw [hfar _ (by omega) (by omega) (by omega) (by omega) (by omega), hfar _ (by omega) (by omega) (by omega) (by omega) (by omega), hfar _ (by omega) (by omega) (by omega) (by omega) (by omega), hfar _ (by omega) (by omega) (by omega) (by omega) (by omega), hfar _ (by omega) (by omega) (by omega) (by omega) (by omega), hfar _ (by omega) (by omega) (by omega) (by omega) (by omega)]
    exact this
  · rw [List.getElem?_append_right (by omega)] at hk
    have hk0 : k = stk.length := by
      have := (List.getElem?_eq_some_iff.mp hk).1
      simp at this; omega
    subst hk0
    simp at hk
    subst hk
    exact ⟨by rw [g21, va_up_self], by rw [g22, va_up_self]; rfl, by rw [g23, va_up_self], by rw [g20, va_up_self]; rfl, by simp, fun j x hx => by simp at hx⟩
theorem ring99 (C : Cx p s m args meth c (AM K sz) G RX6 cX6_copied 5) (hr : meth.sig.returnType = none) {stk : List FrT} {op : List Nat} {cp mt : Int32} (hF : RefF K N R q) (hop : op = stk.map (·.1)) (hl : op.length ≤ 13) (hle : ∀ u ∈ op, u ≤ D.1.length) :
    ∀ (k j : Nat) (acc : List Int32) (I : TI), k + j = op.length → acc.length ≤ j → (∀ u ∈ op.drop j, 0 < u) → RefD I q D → I q 27 = nI op.length → I q 28 = -1 → I q 29 = cp → I q 30 = mt → stkAt I q stk → I q 31 = nI acc.length → ListAt (I (q + 24)) acc → (∀ I', offRg I I' q → FltAt I' q D (-1, [], cp, mt, acc ++ (op.drop j).map (nameOf D)) → ψ I') → WV p l e s m args below meth c G (d + 1) ψ K N R L sz 5 99 [(0, .ref q), (4, .int (nI j))] I
  | 0, j, acc, I, hk, ha, hp, hD, i27, i28, i29, i30, hs, i31, hg, hψ => by
    have hj : j = op.length := by omega
    rw [hj, List.drop_length, List.map_nil, List.append_nil] at hψ
    refine vX6_copied_99 C hr ⟨hF.1, fun _ => hψ I offRg.rf ⟨hD, i28, i29, i30, i31, by simp only; omega, hg⟩, fun z => absurd (by rw [i27]; exact nI_le (by omega) (by omega)) z⟩
  | k + 1, j, acc, I, hk, ha, hp, hD, i27, i28, i29, i30, hs, i31, hg, hψ => by
    have hj : j < op.length := by omega
    have h12 := hD.1.2.2.2.1
    have f24 := hF.2 24 (by decide) (by decide)
    have f1 := hF.2 1 (by decide) (by decide)
    have f21 := hF.2 21 (by decide) (by decide)
    have hd := List.drop_eq_getElem_cons hj
    have hu := hle _ (List.getElem_mem hj)
    have hpos : 0 < op[j] := hp _ (by rw [hd]; exact List.mem_cons_self)
    have hjs : j < stk.length := by rw [hop] at hj; simpa using hj
    have hv : I (q + 21) j = nI op[j] := by
      have := (hs j _ (List.getElem?_eq_getElem hjs)).1
      rw [this]
      congr 1
      subst hop
      simp
    have hnm : I (q + 1) op[j] = nameOf D op[j] := by
      have hq : op[j] - 1 < D.1.length := by omega
      have : I (q + 1) (op[j] - 1 + 1) = _ := hD.2.1 (op[j] - 1) _ (List.getElem?_eq_getElem hq)
      rw [show op[j] - 1 + 1 = op[j] by omega] at this
      rw [this]
      unfold nameOf
      rw [if_neg (by omega), List.getD_eq_getElem?_getD, List.getElem?_eq_getElem hq]; rfl
    rw [hd] at hψ
    refine vX6_copied_99 C hr ⟨hF.1, fun z => absurd z (by rw [i27]; exact nI_ge hj (by omega)), fun _ => ⟨q + 24, f24.1, q + 1, f1.1, q + 21, f21.1, f21.2.1, by rw [f21.2.2]; exact vp_in_nI (show j < 15 by omega) (by decide), f1.2.1, ?_⟩⟩
    rw [nI_clamp (show j < 2 ^ 31 by omega), hv, nI_clamp (show op[j] < 2 ^ 31 by omega), hnm, i31, nI_1]
    refine ⟨by rw [f1.2.2]; exact vp_in_nI (show op[j] < 13 by omega) (by decide), f24.2.1, by rw [f24.2.2]; exact vp_in_nI (show acc.length < 14 by omega) (by decide), fun I14 e14 I15 e15 => ?_⟩
    rw [nI_clamp (by omega)] at e14
    have j31 : I14 q 31 = nI acc.length := by rw [e14, u2_ne _ _ (by omega)]; exact i31
    rw [j31, nI_1] at e15
    have hfar : ∀ a, a ≠ q → a ≠ q + 24 → I15 a = I a := fun a y1 y2 => by rw [e15, u2_ne _ _ y1, e14, u2_ne _ _ y2]
    have hqk : ∀ k, k ≠ 31 → I15 q k = I q k := fun k hk => by rw [e15, u2_nk _ _ hk, e14, u2_ne _ _ (by omega)]
    refine ring99 C hr hF hop hl hle k (j + 1) (acc ++ [nameOf D op[j]]) I15 (by omega) (by simp; omega) (fun u hu => hp u (by rw [hd]; exact List.mem_cons_of_mem _ hu)) (hD.mv (hqk 1 (by decide)) (hqk 2 (by decide)) (hqk 3 (by decide)) (fun c y1 y2 => hfar _ (by omega) (by omega))) ((hqk 27 (by decide)).trans i27) ((hqk 28 (by decide)).trans i28) ((hqk 29 (by decide)).trans i29) ((hqk 30 (by decide)).trans i30) (fun k f hk => ?_) (by rw [e15, u2_self]; simp) ?_ (fun I' ho hf => hψ I' (offRg.tr ⟨fun a ha => hfar a (by omega) (by omega), hqk 32 (by decide)⟩ ho) ?_)
    · obtain ⟨a1, a2, a3, a4, a5, a6⟩ := hs k f hk
      refine ⟨by rw [hfar _ (by omega) (by omega)]; exact a1, by rw [hfar _ (by omega) (by omega)]; exact a2, by rw [hfar _ (by omega) (by omega)]; exact a3, by rw [hfar _ (by omega) (by omega)]; exact a4, a5, fun j x hx => ?_⟩
      have := a6 j x hx
      unfold rfAt at this ⊢
      rw [hfar _ (by omega) (by omega), hfar _ (by omega) (by omega), hfar _ (by omega) (by omega), hfar _ (by omega) (by omega), hfar _ (by omega) (by omega), hfar _ (by omega) (by omega)]
      exact this
    · rw [e15, u2_ne _ _ (by omega), e14, u2_at]
      exact hg.push
    · rw [List.append_assoc] at hf
      exact hf
/-- what a copy's entry leads to -/
def AftCp (q : Nat) (D : Dt) (stk : List FrT) (op : List Nat) (s : Nat) (st : Stt) (cp mt : Int32) (I I' : TI) : Prop := offRg I I' q ∧ ((∃ t', cp < 100 ∧ tNm D st.2.1 = some t' ∧ t' ∉ op ∧ RunAt I' q D (stk ++ [(t', 0, s + 1, [])]) (cp + 1) mt) ∨ ∃ r : ResT, r.1 ≠ 0 ∧ (∀ n, cpS D (n + 1) op s cp mt = r) ∧ FltAt I' q D r)
theorem copied52 (C : Cx p s m args meth c (AM K sz) G RX6 cX6_copied 5) (hr : meth.sig.returnType = none) {stk : List FrT} {op : List Nat} {cp mt : Int32} {t' sn : Nat} (hF : RefF K N R q) (hop : op = stk.map (·.1)) (hok : opOk D op) (ht0 : 0 < t') (ht : t' ≤ D.1.length) (h : RunAt I q D stk cp mt) :
    ∀ (k j : Nat), k + j = op.length → t' ∉ op.take j → (∀ I', offRg I I' q → (t' ∉ op → RunAt I' q D (stk ++ [(t', 0, sn, [])]) cp mt → ψ I') ∧ (t' ∈ op → FltAt I' q D (-1, [], cp, mt, ringS D op t') → ψ I')) → WV p l e s m args below meth c G (d + 1) ψ K N R L sz 5 52 [(0, .ref q), (1, .int (nI sn)), (2, .int (nI t')), (3, .int (nI j))] I
  | 0, j, hk, hn, hψ => by
    have h12 := h.1.1.2.2.2.1
    have hl13 : op.length ≤ 13 := nd_le 13 op hok.1 (fun u hu => by have := hok.2.1 u hu; omega)
    have hsl : stk.length = op.length := by rw [hop]; simp
    have hj : j = op.length := by omega
    rw [hj, List.take_length] at hn
    have i27 : I q 27 = nI j := by rw [h.2.1, hsl, hj]
    refine vX6_copied_52 C hr ⟨hF.1, fun _ => ⟨fun z => absurd i27.symm z, fun _ => ⟨_, tX6_begin hF h (by omega), fun I6 h6 => (hψ I6 h6.1).1 hn h6.2⟩⟩, fun z => absurd (by rw [i27]; exact nI_le (Nat.le_refl _) (by omega)) z⟩
  | k + 1, j, hk, hn, hψ => by
    have h12 := h.1.1.2.2.2.1
    have hl13 : op.length ≤ 13 := nd_le 13 op hok.1 (fun u hu => by have := hok.2.1 u hu; omega)
    have hsl : stk.length = op.length := by rw [hop]; simp
    have hj : j < op.length := by omega
    have f21 := hF.2 21 (by decide) (by decide)
    have i27 : I q 27 = nI op.length := by rw [h.2.1, hsl]
    have hjs : j < stk.length := by omega
    have hv : I (q + 21) j = nI op[j] := by
      have := (h.2.2.2.2.2.2 j _ (List.getElem?_eq_getElem hjs)).1
      rw [this]
      congr 1
      subst hop
      simp
    have hu := hok.2.1 _ (List.getElem_mem hj)
    refine vX6_copied_52 C hr ⟨hF.1, fun z => absurd z (by rw [i27]; exact nI_ge hj (by omega)), fun _ => ⟨q + 21, f21.1, f21.2.1, by rw [f21.2.2]; exact vp_in_nI (show j < 15 by omega) (by decide), ?_⟩⟩
    rw [nI_clamp (by omega), hv, nI_eq (by omega) (by omega), nI_1]
    refine ⟨fun z => ⟨fun _ => fun I16 e16 => ?_, fun y => absurd y (by rw [i27, nI_eq (by omega) (by omega)]; omega)⟩, fun z => ?_⟩
    · have hget : op[j]? = some t' := by rw [List.getElem?_eq_getElem hj, z]
      have hring : ringS D op t' = (op.drop j).map (nameOf D) := by unfold ringS; rw [dw_drop op j hget hn]
      have hfar : ∀ a, a ≠ q → I16 a = I a := fun a y => by rw [e16, u2_ne _ _ y]
      have hqk : ∀ k, k ≠ 28 → I16 q k = I q k := fun k y => by rw [e16, u2_nk _ _ y]
      obtain ⟨hD, -, i28, i29, i30, i31, hs⟩ := h
      have hj0 : j ≠ 0 := fun y => by
        rw [y, hok.2.2] at hget
        have := Option.some.inj hget
        omega
      refine ring99 C hr hF hop hl13 hok.2.1 (k + 1) j [] I16 hk (by simp) (fun u hu => ?_) (hD.mv (hqk 1 (by decide)) (hqk 2 (by decide)) (hqk 3 (by decide)) (fun c y1 y2 => hfar _ (by omega))) ((hqk 27 (by decide)).trans i27) (by rw [e16]; exact u2_self _ _ _ _) ((hqk 29 (by decide)).trans i29) ((hqk 30 (by decide)).trans i30) (fun k f hk => ?_) ((hqk 31 (by decide)).trans i31) ListAt.nil (fun I' ho hf => (hψ I' (offRg.tr ⟨fun a ha => hfar a (by omega), hqk 32 (by decide)⟩ ho)).2 (List.mem_of_getElem? hget) ?_)
      · apply Nat.pos_of_ne_zero
        intro y
        subst y
        obtain ⟨i, hi1, hi2⟩ := List.mem_iff_getElem.mp hu
        rw [List.getElem_drop] at hi2
        have hlen : j + i < op.length := by simp at hi1; omega
        have h0 := (List.getElem?_eq_some_iff.mp hok.2.2)
        exact List.pairwise_iff_getElem.mp hok.1 0 (j + i) h0.1 hlen (by omega) (by rw [hi2, h0.2])
      · obtain ⟨a1, a2, a3, a4, a5, a6⟩ := hs k f hk
        refine ⟨by rw [hfar _ (by omega)]; exact a1, by rw [hfar _ (by omega)]; exact a2, by rw [hfar _ (by omega)]; exact a3, by rw [hfar _ (by omega)]; exact a4, a5, fun j x hx => ?_⟩
        have := a6 j x hx
        unfold rfAt at this ⊢
        rw [hfar _ (by omega), hfar _ (by omega), hfar _ (by omega), hfar _ (by omega), hfar _ (by omega), hfar _ (by omega)]
        exact this
      · rw [List.nil_append] at hf
        rw [hring]; exact hf
    · refine copied52 C hr hF hop hok ht0 ht h k (j + 1) (by omega) (fun y => ?_) hψ
      rw [List.take_succ, List.getElem?_eq_getElem hj] at y
      rcases List.mem_append.mp y with w | w
      · exact hn w
      · simp at w; exact z w.symm
theorem tX6_copied {stk : List FrT} {op : List Nat} {cp mt : Int32} {s : Nat} {st : Stt} (hF : RefF K N R q) (hop : op = stk.map (·.1)) (hok : opOk D op) (h : RunAt I q D stk cp mt) (hst : D.2.2.1[s]? = some st) (hcp : cpOk cp) : MtV l G yX6_copied cX6_copied 5 none (d + 1) [.ref q, .int (nI (s + 1))] K N I R L sz (AftCp q D stk op s st cp mt I) := by
  have hs60 : s < 60 := by have := (List.getElem?_eq_some_iff.mp hst).1; have := h.1.1.2.2.2.2.1; omega
  have f4 := hF.2 4 (by decide) (by decide)
  have h12 := h.1.1.2.2.2.1
  obtain ⟨hD, i27, i28, i29, i30, i31, hs⟩ := id h
  have hlt := hcp.lt
  refine sX6_copied (fun p e s' m args below meth c C hr => ⟨hF.1, fun z => ?_, fun z => fun I17 e17 => ?_⟩)
  · intro I2 e2
    rw [i29] at z e2
    have hl100 : cp < 100 := hlt.mpr z
    have hcpS : ∀ n r, (match tNm D st.2.1 with | none => (-10 - nI (s + 1), [], cp + 1, mt, []) | some t' => if t' ∈ op then (-1, [], cp + 1, mt, ringS D op t') else cpM D st (entS (cpS D n (op ++ [t'])) t' 0 (D.2.1 t') [] (cp + 1) mt)) = r → cpS D (n + 1) op s cp mt = r := fun n r hr => by
      rw [← hr]
      conv => lhs; unfold cpS
      rw [if_pos hl100, hst]
      simp only
      cases tNm D st.2.1 <;> simp only
    have hfar : ∀ a, a ≠ q → I2 a = I a := fun a y => by rw [e2, u2_ne _ _ y]
    have hqk : ∀ k, k ≠ 29 → I2 q k = I q k := fun k y => by rw [e2, u2_nk _ _ y]
    have hD2 : RefD I2 q D := hD.mv (hqk 1 (by decide)) (hqk 2 (by decide)) (hqk 3 (by decide)) (fun c y1 y2 => hfar _ (by omega))
    have h2 : RunAt I2 q D stk (cp + 1) mt := ⟨hD2, (hqk 27 (by decide)).trans i27, (hqk 28 (by decide)).trans i28, by rw [e2]; exact u2_self _ _ _ _, (hqk 30 (by decide)).trans i30, (hqk 31 (by decide)).trans i31, fun k f hk => by
      obtain ⟨a1, a2, a3, a4, a5, a6⟩ := hs k f hk
      refine ⟨by rw [hfar _ (by omega)]; exact a1, by rw [hfar _ (by omega)]; exact a2, by rw [hfar _ (by omega)]; exact a3, by rw [hfar _ (by omega)]; exact a4, a5, fun j x hx => ?_⟩
      have := a6 j x hx
      unfold rfAt at this ⊢
      rw [hfar _ (by omega), hfar _ (by omega), hfar _ (by omega), hfar _ (by omega), hfar _ (by omega), hfar _ (by omega)]
      exact this⟩
    have ho2 : offRg I I2 q := ⟨fun a ha => hfar a (by omega), hqk 32 (by decide)⟩
    have hv : I2 (q + 4) (s + 1) = st.2.1 := (hD2.2.2.2.1.1 s st hst).1
    refine ⟨q + 4, f4.1, f4.2.1, by rw [f4.2.2]; exact vp_in_nI (show s + 1 < 61 by omega) (by decide), ?_⟩
    rw [nI_clamp (by omega), hv]
    refine ⟨_, tX6_textNamed hF hD2, fun r9 I10 h9 => ?_⟩
    obtain ⟨rfl, rfl⟩ := h9
    cases hN : tNm D st.2.1 with
    | none =>
      refine ⟨fun y => absurd rfl y, fun _ => fun I16 e16 => ⟨ho2.tr (by rw [e16]; exact offRg.u (by decide)), Or.inr ⟨(-10 - nI (s + 1), [], cp + 1, mt, []), (cp_st (s + 1) (by omega) (by omega)).2.2.2, fun n => hcpS n _ (by rw [hN]), ?_⟩⟩⟩
      have hqk2 : ∀ k, k ≠ 28 → I16 q k = I10 q k := fun k y => by rw [e16, u2_nk _ _ y]
      have hfar2 : ∀ a, a ≠ q → I16 a = I10 a := fun a y => by rw [e16, u2_ne _ _ y]
      exact ⟨hD2.mv (hqk2 1 (by decide)) (hqk2 2 (by decide)) (hqk2 3 (by decide)) (fun c y1 y2 => hfar2 _ (by omega)), by rw [e16]; exact u2_self _ _ _ _, (hqk2 29 (by decide)).trans h2.2.2.2.1, (hqk2 30 (by decide)).trans h2.2.2.2.2.1, (hqk2 31 (by decide)).trans h2.2.2.2.2.2.1, by simp, ListAt.nil⟩
    | some t' =>
      obtain ⟨ht0, ht⟩ := tNm_le hN
      simp only [Option.map_some, Option.getD_some]
      refine ⟨fun _ => ?_, fun y => absurd y (by rw [nI_eq0 (by omega)]; omega)⟩
      refine copied52 C hr hF hop hok ht0 ht h2 op.length 0 (by omega) (by simp) (fun I' hI => ⟨fun hn hR => ⟨ho2.tr hI, Or.inl ⟨t', hl100, hN, hn, hR⟩⟩, fun hn hR => ⟨ho2.tr hI, Or.inr ⟨_, (show ¬ (-1 : Int32) = 0 by decide), fun n => hcpS n _ (by rw [hN]; simp only; rw [if_pos hn]), hR⟩⟩⟩)
  · rw [i29] at z
    have hl100 : ¬ cp < 100 := fun y => hlt.mp y z
    have hfar : ∀ a, a ≠ q → I17 a = I a := fun a y => by rw [e17, u2_ne _ _ y]
    have hqk : ∀ k, k ≠ 28 → I17 q k = I q k := fun k y => by rw [e17, u2_nk _ _ y]
    refine ⟨⟨fun a ha => hfar a (by omega), hqk 32 (by decide)⟩, Or.inr ⟨(-3, [], cp, mt, []), (show ¬ (-3 : Int32) = 0 by decide), fun n => ?_, ?_⟩⟩
    · conv => lhs; unfold cpS
      rw [if_neg hl100]
    · exact ⟨hD.mv (hqk 1 (by decide)) (hqk 2 (by decide)) (hqk 3 (by decide)) (fun c y1 y2 => hfar _ (by omega)), by rw [e17]; exact u2_self _ _ _ _, (hqk 29 (by decide)).trans i29, (hqk 30 (by decide)).trans i30, (hqk 31 (by decide)).trans i31, by simp, ListAt.nil⟩
end RCOPY
