/-! the reference: match -/
/-- what match leaves -/
def AftMt (q r : Nat) (M : Int32 × List It × Int32) (I I' : TI) : Prop := offE I I' q (fun k => k = r ∨ k = 14) fS ∧ I' q 30 = M.2.2 ∧ I' q 28 = M.1 ∧ (M.1 = 0 → RefRow I' q r M.2.1)
theorem cut_ps {D : Dt} (hl : D.2.2.1.length ≤ 60) {x : It} (h : okR D x) (hc : x.1 < -1) : (x.1 = -3000 ∧ cutP D x.1 = psOf D 0) ∨ ∃ sn, sn ≤ 60 ∧ -2000 - x.1 = nI sn ∧ cutP D x.1 = psOf D sn ∧ -3000 < x.1 ∧ ¬ -2000 ≤ x.1 := by
  rcases h with h | h | ⟨s, st, h1, h2, h3⟩
  · exact absurd hc (pl_ge h)
  · refine Or.inl ⟨h, ?_⟩
    unfold cutP; rw [if_pos h]; rfl
  · have hs := (List.getElem?_eq_some_iff.mp h1).1
    have q1 := st_lt (s + 1) (by omega) (by omega)
    refine Or.inr ⟨s + 1, by omega, by rw [h3]; exact q1.2.2.2.2.2.1, ?_, ?_, ?_⟩
    · unfold cutP psOf phS
      rw [h3, if_neg q1.2.2.1, q1.2.2.2.2.2.1, nI_clamp (by omega), Nat.add_sub_cancel, h1, if_neg (by omega)]; rfl
    · rw [h3]; exact Int32.not_le.mp q1.2.2.2.2.2.2.2.2.2
    · rw [h3]; exact fun z => absurd q1.2.2.2.2.2.2.2.2.1 (Int32.not_lt.mpr z)
theorem ge_m1 {c : Int32} (h : ¬ c < -1) : -3000 < c ∧ -2000 ≤ c := by
  rw [Int32.lt_iff_toInt_lt] at h
  rw [Int32.lt_iff_toInt_lt, Int32.le_iff_toInt_le]
  have h1 : ((-1 : Int32)).toInt = -1 := rfl
  have h2 : ((-2000 : Int32)).toInt = -2000 := rfl
  have h3 : ((-3000 : Int32)).toInt = -3000 := rfl
  omega
section RMATCH
variable {p : Program} {l : Launch} {e : Env} {s : State} {m : MethodId} {args : Array Value} {below : List Frame} {meth : Method} {c : Code} {G : Gx} {d : Nat} {K N : TK} {I : TI} {R : TR} {L : TL} {sz q : Nat} {D : Dt} {φ : TI → Prop}
theorem match145 (C : Cx p s m args meth c (AM K sz) G RX6 cX6_match 8) (hr : meth.sig.returnType = none) {r : Nat} {t : List It} (hF : RefF K N R q) (hr13 : r ≤ 13) :
    ∀ (k j : Nat) (I : TI), k + j = t.length → RefRow I q 14 t → RefRow I q r (t.take j) → (∀ I', offE I I' q (· = r) (fun _ => False) → RefRow I' q r t → φ I') → WV p l e s m args below meth c G (d + 2) φ K N R L sz 8 145 [(0, .ref q), (1, .int (nI r)), (3, .int 14), (7, .int (nI j))] I
  | 0, j, I, hk, h14, hrow, hφ => by
    have h3 := h14.2.1
    have f20 := hF.2 20 (by decide) (by decide)
    refine vX6_match_145 (d := d + 1) C hr ⟨hF.1, q + 20, f20.1, f20.2.1, by rw [f20.2.2]; exact vp_in_nI (show 14 < 15 by omega) (by decide), ?_⟩
    rw [show Int32.toNatClampNeg 14 = 14 from rfl, h14.1]
    refine ⟨fun _ => hφ I offE.rf ?_, fun z => absurd (nI_le (by omega) (by omega)) z⟩
    rw [List.take_of_length_le (by omega)] at hrow; exact hrow
  | k + 1, j, I, hk, h14, hrow, hφ => by
    have h3 := h14.2.1
    have hj : j < t.length := by omega
    have f20 := hF.2 20 (by decide) (by decide)
    refine vX6_match_145 (d := d + 1) C hr ⟨hF.1, q + 20, f20.1, f20.2.1, by rw [f20.2.2]; exact vp_in_nI (show 14 < 15 by omega) (by decide), ?_⟩
    rw [show Int32.toNatClampNeg 14 = 14 from rfl, h14.1]
    refine ⟨fun z => absurd z (nI_ge hj (by omega)), fun _ => ?_⟩
    rw [show (302 : Int32) * 14 + nI j = nI (302 * 14 + j) from nI_302 14 j]
    refine ⟨_, tX6_again hF (by omega) hrow (Nat.le_refl 14) h14 (List.getElem?_eq_getElem hj), fun r8 I9 h8 => ?_⟩
    have htl : (t.take j).length = j := by simp; omega
    rcases h8 with ⟨hn, -, hoff, hrow'⟩ | ⟨hn, -, -⟩
    · rw [nI_1]
      have hne : ¬ 14 = r := by omega
      refine match145 C hr hF hr13 k (j + 1) I9 (by omega) (hoff.row hne h14) ?_ (fun I' hI => hφ I' (hoff.tr hI))
      rw [List.take_succ, List.getElem?_eq_getElem hj]; exact hrow'
    · omega
theorem match_end (C : Cx p s m args meth c (AM K sz) G RX6 cX6_match 8) (hr : meth.sig.returnType = none) {r : Nat} {t : List It} (hF : RefF K N R q) (hr13 : r ≤ 13) (h14 : RefRow I q 14 t) (hφ : ∀ I', offE I I' q (· = r) (fun _ => False) → RefRow I' q r t → φ I') : ∃ b2, R q 23 = some b2 ∧ K b2 = 20 ∧ vp_in (nI r) (N b2) ∧ ∀ I6 : TI, I6 = u2 I b2 (Int32.toNatClampNeg (nI r)) 0 → WV p l e s m args below meth c G (d + 2) φ K N R L sz 8 145 [(0, .ref q), (1, .int (nI r)), (3, .int 14), (7, .int 0)] I6 := by
  have f20 := hF.2 20 (by decide) (by decide)
  refine ⟨q + 20, f20.1, f20.2.1, by rw [f20.2.2]; exact vp_in_nI (show r < 15 by omega) (by decide), fun I6 e6 => ?_⟩
  rw [nI_clamp (by omega)] at e6
  have hoff : offE I I6 q (· = r) (fun _ => False) := by rw [e6]; exact offE.len rfl
  have hne : ¬ 14 = r := by omega
  exact match145 C hr hF hr13 t.length 0 I6 (by omega) (hoff.row hne h14) ⟨by rw [e6]; exact u2_self _ _ _ _, by simp, fun j x hx => by simp at hx⟩ (fun I' hI => hφ I' (hoff.tr hI))
/-- behind a fault -/
theorem match_x (C : Cx p s m args meth c (AM K sz) G RX6 cX6_match 8) (hr : meth.sig.returnType = none) {r : Nat} {x2 x4 x5 x6 : Int32} (hF : RefF K N R q) (hf : ¬ I q 28 = 0) (hφ : φ I) : WV p l e s m args below meth c G (d + 2) φ K N R L sz 8 31 [(0, .ref q), (1, .int (nI r)), (2, .int x2), (3, .int 14), (4, .int x4), (5, .int x5), (6, .int x6)] I :=
  vX6_match_31 (d := d + 1) C hr ⟨fun _ => ⟨hF.1, fun z => absurd z hf, fun _ => hφ⟩, fun _ => ⟨hF.1, fun _ => ⟨fun z => absurd z hf, fun _ => hφ⟩, fun z => absurd z hf⟩⟩
theorem rs14 {I I' : TI} {r : Nat} (h : offE I I' q (· = 14) fS) : offE I I' q (fun k => k = r ∨ k = 14) fS := h.mono (fun _ z => Or.inr z) (fun _ z => z)
theorem matchS_loop (C : Cx p s m args meth c (AM K sz) G RX6 cX6_match 8) (hr : meth.sig.returnType = none) {r sn : Nat} {t : List It} {x2 : Int32} (hF : RefF K N R q) (hwf : WfD D) (hr13 : r ≤ 13) (hsn : sn ≤ 60) (hx2 : ¬ x2 = 0) (hok : ∀ y ∈ t, okR D y) :
    ∀ (n i : Nat) (out : List It) (I : TI), t.length - i ≤ n → i ≤ t.length → RefD I q D → RefRow I q r t → RefRow I q 14 out → I q 28 = 0 → (∀ I', AftMt q r (matchS D (psOf D sn) n (seg t i t.length) out (I q 30)) I I' → φ I') → WV p l e s m args below meth c G (d + 3) φ K N R L sz 8 31 [(0, .ref q), (1, .int (nI r)), (2, .int x2), (3, .int 14), (4, .int (nI (302 * r + i))), (5, .int (nI (302 * r + t.length))), (6, .int (nI sn))] I
  | n, i, out, I, hn, hi, hD, ht, ho, h28, hφ => by
    have h3 := ht.2.1
    by_cases hie : i = t.length
    · rw [seg_nil (by omega), show matchS D (psOf D sn) n [] out (I q 30) = (0, out, I q 30) by cases n <;> rfl] at hφ
      refine vX6_match_31 (d := d + 2) C hr ⟨fun _ => ⟨hF.1, fun _ => match_end (d := d + 1) C hr hF hr13 ho (fun I' hI hR => hφ I' ⟨hI.mono (fun _ z => Or.inl z) (fun _ z => z.elim), hI.2.1 30 (fun z => z), (hI.2.1 28 (fun z => z)).trans h28, fun _ => hR⟩), fun z => absurd h28 z⟩, fun z => absurd (nI_le (by omega) (by omega)) z⟩
    · obtain ⟨n, rfl⟩ : ∃ n', n = n' + 1 := ⟨n - 1, by omega⟩
      obtain ⟨x, hx, hs⟩ := seg_get (t := t) (j := i) (e := t.length) (by omega) (Nat.le_refl _)
      rw [hs] at hφ
      unfold matchS at hφ
      have hlt := stepS_lt hwf (ps := psOf D sn) (x := x) (t := seg t (i + 1) t.length) (out := out) (mt := I q 30)
      have hle := hlt.1
      rw [seg_len (Nat.le_refl _)] at hle
      refine vX6_match_31 (d := d + 2) C hr ⟨fun z => absurd z (nI_ge (by omega) (by omega)), fun _ => ⟨hF.1, fun z => absurd h28 z, fun _ => ⟨fun _ => ⟨fun _ => ⟨_, tX6_step hF hD hwf hsn hr13 ht ho (Nat.le_refl _) (by omega) hx (hok x (List.mem_of_getElem? hx)) h28, fun r15 I16 h15 => ?_⟩, fun z => absurd z hx2⟩, fun z => absurd z hx2⟩⟩⟩
      obtain ⟨g1, g2, g3, g4, g5⟩ := h15
      have hsg := seg_suf (Nat.le_refl _) (by omega) hlt.2
      generalize stepS D (psOf D sn) x (seg t (i + 1) t.length) out (I q 30) = S at *
      have hne : ¬ r = 14 := by omega
      by_cases hz : S.1 = 0
      · rw [if_pos hz] at g2 hφ
        subst g2
        refine matchS_loop C hr hF hwf hr13 hsn hx2 hok n _ S.2.2.1 I16 (by omega) (by omega) (g1.dat (fun k y => by unfold fS at y; omega) hD) (g1.row hne ht) (g5 hz) (g4.trans hz) (fun I' hv => hφ I' ?_)
        rw [← hsg, g3] at hv
        exact ⟨(rs14 g1).tr hv.1, hv.2⟩
      · rw [if_neg hz] at g2 hφ
        subst g2
        exact match_x (d := d + 1) C hr hF (by rw [g4]; exact hz) (hφ I16 ⟨rs14 g1, g3, g4, fun z => absurd z hz⟩)
  termination_by n => n
theorem matchC_loop (C : Cx p s m args meth c (AM K sz) G RX6 cX6_match 8) (hr : meth.sig.returnType = none) {r : Nat} {t : List It} (hF : RefF K N R q) (hwf : WfD D) (hr13 : r ≤ 13) (hok : ∀ y ∈ t, okR D y) :
    ∀ (n i sn : Nat) (out : List It) (I : TI), t.length - i ≤ n → i ≤ t.length → sn ≤ 60 → RefD I q D → RefRow I q r t → RefRow I q 14 out → I q 28 = 0 → (∀ I', AftMt q r (matchC D n (psOf D sn) (seg t i t.length) out (I q 30)) I I' → φ I') → WV p l e s m args below meth c G (d + 3) φ K N R L sz 8 31 [(0, .ref q), (1, .int (nI r)), (2, .int 0), (3, .int 14), (4, .int (nI (302 * r + i))), (5, .int (nI (302 * r + t.length))), (6, .int (nI sn))] I
  | n, i, sn, out, I, hn, hi, hsn, hD, ht, ho, h28, hφ => by
    have h3 := ht.2.1
    have hl60 := hD.1.2.2.2.2.1
    by_cases hie : i = t.length
    · rw [seg_nil (by omega), show matchC D n (psOf D sn) [] out (I q 30) = (0, out, I q 30) by cases n <;> rfl] at hφ
      refine vX6_match_31 (d := d + 2) C hr ⟨fun _ => ⟨hF.1, fun _ => match_end (d := d + 1) C hr hF hr13 ho (fun I' hI hR => hφ I' ⟨hI.mono (fun _ z => Or.inl z) (fun _ z => z.elim), hI.2.1 30 (fun z => z), (hI.2.1 28 (fun z => z)).trans h28, fun _ => hR⟩), fun z => absurd h28 z⟩, fun z => absurd (nI_le (by omega) (by omega)) z⟩
    · obtain ⟨n, rfl⟩ : ∃ n', n = n' + 1 := ⟨n - 1, by omega⟩
      obtain ⟨x, hx, hs⟩ := seg_get (t := t) (j := i) (e := t.length) (by omega) (Nat.le_refl _)
      have hxo := hok x (List.mem_of_getElem? hx)
      have e1 := (ht.2.2 i x hx).1
      have f14 := hF.2 14 (by decide) (by decide)
      have hin : vp_in (nI (302 * r + i)) 4530 := vp_in_nI (by omega) (by decide)
      rw [hs] at hφ
      unfold matchC at hφ
      by_cases hc : x.1 < -1
      · rw [if_pos hc] at hφ
        refine vX6_match_31 (d := d + 2) C hr ⟨fun z => absurd z (nI_ge (by omega) (by omega)), fun _ => ⟨hF.1, fun z => absurd h28 z, fun _ => ⟨fun z => absurd rfl z, fun _ => ⟨q + 14, f14.1, f14.2.1, by rw [f14.2.2]; exact hin, ?_⟩⟩⟩⟩
        rw [nI_clamp (show 302 * r + i < 2 ^ 31 by omega), e1, nI_1]
        rcases cut_ps hl60 hxo hc with ⟨c1, c2⟩ | ⟨sn', c1, c2, c3, c4, c5⟩
        · refine ⟨fun z => absurd z (by rw [c1]; decide), fun _ => ?_⟩
          rw [c2] at hφ
          exact matchC_loop C hr hF hwf hr13 hok n (i + 1) 0 out I (by omega) (by omega) (by omega) hD ht ho h28 hφ
        · refine ⟨fun _ => ⟨fun z => absurd rfl z, fun _ => ⟨fun z => absurd z c5, fun _ => ?_⟩⟩, fun z => absurd c4 z⟩
          rw [c3] at hφ
          rw [c2]
          exact matchC_loop C hr hF hwf hr13 hok n (i + 1) sn' out I (by omega) (by omega) c1 hD ht ho h28 hφ
      · rw [if_neg hc] at hφ
        have hlt := stepS_lt hwf (ps := psOf D sn) (x := x) (t := seg t (i + 1) t.length) (out := out) (mt := I q 30)
        have hle := hlt.1
        rw [seg_len (Nat.le_refl _)] at hle
        refine vX6_match_31 (d := d + 2) C hr ⟨fun z => absurd z (nI_ge (by omega) (by omega)), fun _ => ⟨hF.1, fun z => absurd h28 z, fun _ => ⟨fun z => absurd rfl z, fun _ => ⟨q + 14, f14.1, f14.2.1, by rw [f14.2.2]; exact hin, ?_⟩⟩⟩⟩
        rw [nI_clamp (show 302 * r + i < 2 ^ 31 by omega), e1]
        refine ⟨fun _ => ⟨fun z => absurd rfl z, fun _ => ⟨fun _ => ⟨_, tX6_step hF hD hwf hsn hr13 ht ho (Nat.le_refl _) (by omega) hx hxo h28, fun r15 I16 h15 => ?_⟩, fun z => absurd (ge_m1 hc).2 z⟩⟩, fun z => absurd (ge_m1 hc).1 z⟩
        obtain ⟨g1, g2, g3, g4, g5⟩ := h15
        have hsg := seg_suf (Nat.le_refl _) (by omega) hlt.2
        generalize stepS D (psOf D sn) x (seg t (i + 1) t.length) out (I q 30) = S at *
        have hne : ¬ r = 14 := by omega
        by_cases hz : S.1 = 0
        · rw [if_pos hz] at g2 hφ
          subst g2
          refine matchC_loop C hr hF hwf hr13 hok n _ sn S.2.2.1 I16 (by omega) (by omega) hsn (g1.dat (fun k y => by unfold fS at y; omega) hD) (g1.row hne ht) (g5 hz) (g4.trans hz) (fun I' hv => hφ I' ?_)
          rw [← hsg, g3] at hv
          exact ⟨(rs14 g1).tr hv.1, hv.2⟩
        · rw [if_neg hz] at g2 hφ
          subst g2
          exact match_x (d := d + 1) C hr hF (by rw [g4]; exact hz) (hφ I16 ⟨rs14 g1, g3, g4, fun z => absurd z hz⟩)
  termination_by n => n
/-- what match makes of a row -/
def mtS (D : Dt) (sn : Nat) (t : List It) (mt : Int32) : Int32 × List It × Int32 := if sn = 0 then matchC D t.length [] t [] mt else matchS D (psOf D sn) t.length t [] mt
theorem tX6_match {r sn : Nat} {t : List It} (hF : RefF K N R q) (hD : RefD I q D) (hwf : WfD D) (hsn : sn ≤ 60) (hr13 : r ≤ 13) (ht : RefRow I q r t) (hok : ∀ y ∈ t, okR D y) (h28 : I q 28 = 0) : MtV l G yX6_match cX6_match 8 none (d + 3) [.ref q, .int (nI r), .int (nI sn)] K N I R L sz (AftMt q r (mtS D sn t (I q 30)) I) := by
  have h3 := ht.2.1
  have f20 := hF.2 20 (by decide) (by decide)
  refine sX6_match (d := d + 2) (fun p e s m args below meth c C hr => ⟨hF.1, q + 20, f20.1, f20.2.1, by rw [f20.2.2]; exact vp_in_nI (show 14 < 15 by omega) (by decide), fun I6 e6 => ⟨by rw [f20.2.2]; exact vp_in_nI (show r < 15 by omega) (by decide), ?_⟩⟩)
  rw [show Int32.toNatClampNeg 14 = 14 from rfl] at e6
  have hoff : offE I I6 q (· = 14) fS := by rw [e6]; exact offE.len rfl
  have hne : ¬ r = 14 := by omega
  have ht6 : RefRow I6 q r t := hoff.row hne ht
  have ho6 : RefRow I6 q 14 [] := ⟨by rw [e6]; exact u2_self _ _ _ _, by simp, fun j x hx => by simp at hx⟩
  have hD6 : RefD I6 q D := hoff.dat (fun k y => by unfold fS at y; omega) hD
  have i28 : I6 q 28 = 0 := (show I6 q 28 = I q 28 by rw [e6, u2_ne _ _ (by omega)]).trans h28
  have i30 : I6 q 30 = I q 30 := by rw [e6, u2_ne _ _ (by omega)]
  rw [nI_clamp (by omega), ht6.1, nI_302, nI_302']
  by_cases hz : sn = 0
  · subst hz
    refine matchC_loop C hr hF hwf hr13 hok t.length 0 0 [] I6 (by omega) (Nat.zero_le _) (by omega) hD6 ht6 ho6 i28 (fun I' hv => ?_)
    rw [seg_all rfl, i30] at hv
    unfold mtS
    rw [if_pos rfl]
    exact ⟨(rs14 hoff).tr hv.1, hv.2⟩
  · refine matchS_loop C hr hF hwf hr13 hsn (by rw [nI_eq0 (by omega)]; exact hz) hok t.length 0 [] I6 (by omega) (Nat.zero_le _) hD6 ht6 ho6 i28 (fun I' hv => ?_)
    rw [seg_all rfl, i30] at hv
    unfold mtS
    rw [if_neg hz]
    exact ⟨(rs14 hoff).tr hv.1, hv.2⟩
end RMATCH
