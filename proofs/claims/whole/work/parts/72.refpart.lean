/-! the reference: behind, hasPart, changed -/
def bhR (r en : Nat) : Option (List It) → Int32
  | some t => nI (302 * r + (en - t.length))
  | none => 0
section RPART
variable {p : Program} {l : Launch} {e : Env} {s : State} {m : MethodId} {args : Array Value} {below : List Frame} {meth : Method} {c : Code} {G : Gx} {d : Nat} {K N : TK} {I : TI} {R : TR} {L : TL} {sz q : Nat} {D : Dt} {φ : Int32 → TI → Prop}
theorem beh17 (C : Cx p s m args meth c (AM K sz) G RX6 cX6_behind 6) (hr : meth.sig.returnType = (some .int)) {r pn en : Nat} {ph : Phr} {t : List It} (hF : RefF K N R q) (hr14 : r ≤ 14) (ht : RefRow I q r t) (he : en ≤ t.length) (hpn : pn < 100) (hfr : ListAt (fun j => I (q + 12) (10 * pn + j)) ph.2.1) (hl10 : ph.2.1.length ≤ 10) {f : Nat} {w : Int32} {ws : List Int32} (hw : ph.2.1[f]? = some w) (hf : 0 < f)
    (H : ∀ j', j' ≤ en → φ (bhR r en (behT ws (seg t j' en))) I → WI p l e s m args below meth c G d φ K N R L sz 6 6 [(0, .ref q), (1, .int (nI (pn + 1))), (3, .int (nI (302 * r + en))), (4, .int (nI (302 * r + j'))), (5, .int (nI (f + 1)))] I) :
    ∀ (k j : Nat), k + j = en → φ (bhR r en (behT (w :: ws) (seg t j en))) I → WI p l e s m args below meth c G d φ K N R L sz 6 17 [(0, .ref q), (1, .int (nI (pn + 1))), (3, .int (nI (302 * r + en))), (4, .int (nI (302 * r + j))), (5, .int (nI f))] I
  | 0, j, hk, h => by
    have h3 := ht.2.1
    have hfl := (List.getElem?_eq_some_iff.mp hw).1
    rw [seg_nil (by omega)] at h
    refine vX6_behind_17 C hr ⟨fun z => absurd z (by rw [nI_le0 (by omega)]; omega), fun _ => ⟨fun _ => ⟨fun _ => h, fun z => absurd (by congr 1; omega) z⟩, fun z => absurd (nI_le (by omega) (by omega)) z⟩⟩
  | k + 1, j, hk, h => by
    have h3 := ht.2.1
    have hfl := (List.getElem?_eq_some_iff.mp hw).1
    obtain ⟨x, hx, hs⟩ := seg_get (t := t) (j := j) (e := en) (by omega) he
    have f14 := hF.2 14 (by decide) (by decide)
    have f12 := hF.2 12 (by decide) (by decide)
    have e1 := (ht.2.2 j x hx).1
    rw [hs] at h
    have hne : ¬ nI (302 * r + j) = nI (302 * r + en) := by rw [nI_eq (by omega) (by omega)]; omega
    have hwv : I (q + 12) (10 * pn + f) = w := hfr f w hw
    refine vX6_behind_17 C hr ⟨fun z => absurd z (by rw [nI_le0 (by omega)]; omega), fun _ => ⟨fun z => absurd z (nI_ge (by omega) (by omega)), fun _ => ⟨hF.1, q + 14, f14.1, f14.2.1, by rw [f14.2.2]; exact vp_in_nI (show 302 * r + j < 4530 by omega) (by decide), ?_⟩⟩⟩
    rw [nI_clamp (by omega), e1, nI_1]
    refine ⟨fun z => ?_, fun z => ⟨fun z2 => ⟨fun z3 => absurd z3 hne, fun _ => ⟨q + 12, f12.1, f12.2.1, ?_, ?_⟩⟩, fun z2 => ?_⟩⟩
    · rw [behT_skip (Or.inl z)] at h
      exact beh17 C hr hF hr14 ht he hpn hfr hl10 hw hf H k (j + 1) (by omega) h
    · rw [nI_10, f12.2.2]
      exact vp_in_nI (show 10 * pn + f < 1010 by omega) (by decide)
    · rw [nI_10, nI_clamp (by omega), hwv, nI_1]
      rw [behT_go (by intro y; rcases y with y | y; exact z y; exact z2 y)] at h
      refine ⟨fun z3 => ?_, fun z3 => ?_⟩
      · rw [if_pos z3] at h
        exact H (j + 1) (by omega) h
      · rw [if_neg z3] at h; exact h
    · rw [behT_skip (Or.inr z2)] at h
      exact beh17 C hr hF hr14 ht he hpn hfr hl10 hw hf H k (j + 1) (by omega) h
theorem beh6 (C : Cx p s m args meth c (AM K sz) G RX6 cX6_behind 6) (hr : meth.sig.returnType = (some .int)) {r pn en : Nat} {ph : Phr} {t : List It} (hF : RefF K N R q) (hr14 : r ≤ 14) (ht : RefRow I q r t) (he : en ≤ t.length) (hpn : pn < 100) (hfr : ListAt (fun j => I (q + 12) (10 * pn + j)) ph.2.1) (hl10 : ph.2.1.length ≤ 10) (hfm : I (q + 10) (pn + 1) = nI ph.2.1.length) :
    ∀ (ws : List Int32) (f j : Nat), ph.2.1.drop f = ws → f ≤ ph.2.1.length → j ≤ en → (f = 0 → j < en ∧ ∀ x, t[j]? = some x → 0 < x.1) → φ (bhR r en (behT ws (seg t j en))) I → WI p l e s m args below meth c G d φ K N R L sz 6 6 [(0, .ref q), (1, .int (nI (pn + 1))), (3, .int (nI (302 * r + en))), (4, .int (nI (302 * r + j))), (5, .int (nI f))] I
  | [], f, j, hf, hf0, hj, h0, h => by
    have h3 := ht.2.1
    have f10 := hF.2 10 (by decide) (by decide)
    have hfl : ph.2.1.length ≤ f := by simpa using hf
    refine vX6_behind_6 C hr ⟨hF.1, q + 10, f10.1, f10.2.1, by rw [f10.2.2]; exact vp_in_nI (show pn + 1 < 101 by omega) (by decide), ?_⟩
    rw [nI_clamp (by omega), hfm]
    refine ⟨fun _ => ?_, fun z => absurd (nI_le hfl (by omega)) z⟩
    simp only [behT, bhR, seg_len he] at h
    rw [show en - (en - j) = j by omega] at h
    exact h
  | w :: ws, f, j, hf, hf0, hj, h0, h => by
    have h3 := ht.2.1
    have f10 := hF.2 10 (by decide) (by decide)
    have f14 := hF.2 14 (by decide) (by decide)
    have f12 := hF.2 12 (by decide) (by decide)
    have hfl : f < ph.2.1.length := by
      apply Nat.lt_of_not_le; intro z
      rw [List.drop_eq_nil_of_le z] at hf; cases hf
    have hw : ph.2.1[f]? = some w ∧ ph.2.1.drop (f + 1) = ws := by
      have := List.drop_eq_getElem_cons hfl
      rw [hf] at this
      injection this with h1 h2
      exact ⟨by rw [List.getElem?_eq_getElem hfl, h1], h2.symm⟩
    have hwv : I (q + 12) (10 * pn + f) = w := hfr f w hw.1
    refine vX6_behind_6 C hr ⟨hF.1, q + 10, f10.1, f10.2.1, by rw [f10.2.2]; exact vp_in_nI (show pn + 1 < 101 by omega) (by decide), ?_⟩
    rw [nI_clamp (by omega), hfm]
    refine ⟨fun z => absurd z (nI_ge hfl (by omega)), fun _ => ?_⟩
    have IH := fun j' hj' => beh6 C hr hF hr14 ht he hpn hfr hl10 hfm ws (f + 1) j' hw.2 (by omega) hj' (fun z => absurd z (by omega))
    by_cases hz : f = 0
    · obtain ⟨hje, hpos⟩ := h0 hz
      obtain ⟨x, hx, hs⟩ := seg_get (t := t) (j := j) (e := en) hje he
      have hp := hpos x hx
      have e1 := (ht.2.2 j x hx).1
      rw [hs, behT_go (by intro y; rcases y with y | y <;> rw [y] at hp <;> exact absurd hp (by decide))] at h
      have hne : ¬ nI (302 * r + j) = nI (302 * r + en) := by rw [nI_eq (by omega) (by omega)]; omega
      refine vX6_behind_17 C hr ⟨fun _ => ⟨fun z => absurd z hne, fun _ => ⟨hF.1, q + 14, f14.1, f14.2.1, by rw [f14.2.2]; exact vp_in_nI (show 302 * r + j < 4530 by omega) (by decide), q + 12, f12.1, f12.2.1, ?_, ?_⟩⟩, fun z => absurd (by rw [nI_le0 (by omega)]; exact hz) z⟩
      · rw [nI_10, f12.2.2]
        exact vp_in_nI (show 10 * pn + f < 1010 by omega) (by decide)
      · rw [nI_clamp (by omega), nI_10, nI_clamp (by omega), hwv, e1, nI_1, nI_1]
        refine ⟨fun z => ?_, fun z => ?_⟩
        · rw [if_pos z] at h
          exact IH (j + 1) (by omega) h
        · rw [if_neg z] at h; exact h
    · exact beh17 C hr hF hr14 ht he hpn hfr hl10 hw.1 (by omega) IH (en - j) j (by omega) h
theorem tX6_behind {r pn i en : Nat} {ph : Phr} {t : List It} {x : It} (hF : RefF K N R q) (hD : RefD I q D) (hph : D.2.2.2[pn]? = some ph) (hr14 : r ≤ 14) (ht : RefRow I q r t) (he : en ≤ t.length) (hi : i < en) (hx : t[i]? = some x) (hp : 0 < x.1) : MtI l G yX6_behind cX6_behind 6 (some .int) d [.ref q, .int (nI (pn + 1)), .int (nI (302 * r + i)), .int (nI (302 * r + en))] K N I R L sz (fun v I' => v = bhR r en (behT ph.2.1 (seg t i en)) ∧ I' = I) := by
  have hpn : pn < 100 := by have := (List.getElem?_eq_some_iff.mp hph).1; have := hD.1.2.2.2.2.2; omega
  obtain ⟨p1, p2, p3, p4⟩ := hD.2.2.2.2.1 pn ph hph
  refine sX6_behind (fun p e s m args below meth c C hr => ?_)
  exact beh6 C hr hF hr14 ht he hpn p4 p3 p2 ph.2.1 0 i (by rw [List.drop_zero]) (Nat.zero_le _) (by omega) (fun _ => ⟨hi, fun y hy => by rw [hx] at hy; cases hy; exact hp⟩) ⟨rfl, rfl⟩
theorem one_le_sub {a b : Nat} (ha : a < 2 ^ 30) (hb : b < 2 ^ 30) : 1 ≤ nI a - nI b ↔ b < a := by
  rw [Int32.le_iff_toInt_le, pk_sub_toInt ha hb]
  have : (1 : Int32).toInt = 1 := rfl
  omega
theorem pw_pos (k : Nat) : 0 < 27 ^ k := Nat.pow_pos (by decide)
theorem tX6_hasPart {pn n part : Nat} {ph : Phr} (hF : RefF K N R q) (hD : RefD I q D) (hph : D.2.2.2[pn]? = some ph) (hf : ph.2.1 = [nI part]) (hn : n < 27 ^ 6) (hp : part < 27 ^ 6) : MtI l G yX6_hasPart cX6_hasPart 5 (some .boolean) (d + 1) [.ref q, .int (nI (pn + 1)), .int (nI n)] K N I R L sz (fun v I' => v = b2i (hasN ph.1 part n) ∧ I' = I) := by
  have h6 := pw_lt (k := 6) (by decide)
  have hn31 : n < 2 ^ 31 := by omega
  have hp31 : part < 2 ^ 31 := by omega
  have l1 := nlF_le 6 n
  have l2 := nlF_le 6 part
  have hpn : pn < 100 := by have := (List.getElem?_eq_some_iff.mp hph).1; have := hD.1.2.2.2.2.2; omega
  obtain ⟨p1, p2, p3, p4⟩ := hD.2.2.2.2.1 pn ph hph
  have f12 := hF.2 12 (by decide) (by decide)
  have f9 := hF.2 9 (by decide) (by decide)
  have hpt : I (q + 12) (10 * pn) = nI part := p4 0 (nI part) (by rw [hf]; rfl)
  refine sX6_hasPart ⟨hF.1, q + 12, f12.1, f12.2.1, by rw [nI_10', f12.2.2]; exact vp_in_nI (show 10 * pn < 1010 by omega) (by decide), _, tX6_letters hn, fun r8 I9 h8 => ?_⟩
  obtain ⟨rfl, rfl⟩ := h8
  rw [nI_10', nI_clamp (by omega), hpt]
  refine ⟨_, tX6_letters hp, fun r17 I18 h17 => ?_⟩
  obtain ⟨rfl, rfl⟩ := h17
  rw [one_le_sub (by omega) (by omega)]
  refine ⟨fun z => ⟨q + 9, f9.1, f9.2.1, by rw [f9.2.2]; exact vp_in_nI (show pn + 1 < 101 by omega) (by decide), ?_⟩, fun z => ⟨by rw [b2i_f (by simp [hasN]; intro y; omega)], rfl⟩⟩
  rw [nI_clamp (by omega), p1, pk_sub (by omega)]
  refine ⟨fun z2 => ⟨_, tX6_letters hp, fun r30 I31 h30 => ?_⟩, fun z2 => ⟨_, tX6_power (by omega), fun r49 I50 h49 => ?_⟩⟩
  · obtain ⟨rfl, rfl⟩ := h30
    refine ⟨_, tX6_power l2, fun r39 I40 h39 => ?_⟩
    obtain ⟨rfl, rfl⟩ := h39
    have g1 := pw_lt l2
    have g2 := pw_pos (nlF 6 part)
    rw [pk_rem hn31 g2 (by omega), nI_eq (Nat.lt_of_le_of_lt (Nat.mod_le _ _) hn31) hp31, nI_eq0 (by omega)]
    refine ⟨by omega, fun z3 => ⟨?_, rfl⟩, fun z3 => ⟨?_, rfl⟩⟩
    · rw [b2i_f (by simp [hasN, z2, z3])]
    · rw [b2i_t (by simp [hasN, z, z2, z3])]
  · obtain ⟨rfl, rfl⟩ := h49
    have g1 := pw_lt (k := nlF 6 n - nlF 6 part) (by omega)
    have g2 := pw_pos (nlF 6 n - nlF 6 part)
    rw [pk_div hn31 g2 (by omega), nI_eq (Nat.lt_of_le_of_lt (Nat.div_le_self _ _) hn31) hp31, nI_eq0 (by omega)]
    refine ⟨by omega, fun z3 => ⟨?_, rfl⟩, fun z3 => ⟨?_, rfl⟩⟩
    · rw [b2i_f (by simp [hasN, z2, z3])]
    · rw [b2i_t (by simp [hasN, z, z2, z3])]
theorem tX6_changed {pn n part pt : Nat} {ph : Phr} (hF : RefF K N R q) (hD : RefD I q D) (hph : D.2.2.2[pn]? = some ph) (hf : ph.2.1 = [nI part]) (ht : (ph.2.2 = [] ∧ pt = 0) ∨ ph.2.2 = [nI pt]) (hn : n < 27 ^ 6) (hp : part < 27 ^ 6) (hpt : pt < 27 ^ 6) (hlt : nlF 6 part < nlF 6 n) : MtI l G yX6_changed cX6_changed 6 (some .int) (d + 1) [.ref q, .int (nI (pn + 1)), .int (nI n)] K N I R L sz (fun v I' => v = (match chg ph.1 part pt n with | some c => nI c | none => 0) ∧ I' = I) := by
  have h6 := pw_lt (k := 6) (by decide)
  have hn31 : n < 2 ^ 31 := by omega
  have hp31 : part < 2 ^ 31 := by omega
  have hpt31 : pt < 2 ^ 31 := by omega
  have l1 := nlF_le 6 n
  have l2 := nlF_le 6 part
  have l3 := nlF_le 6 pt
  have hpn : pn < 100 := by have := (List.getElem?_eq_some_iff.mp hph).1; have := hD.1.2.2.2.2.2; omega
  obtain ⟨p1, p2, p3, p4⟩ := hD.2.2.2.2.1 pn ph hph
  obtain ⟨t1, t2, t3⟩ := hD.2.2.2.2.2 pn hpn
  have hto : toS D pn = ph.2.2 := by unfold toS; rw [hph]; rfl
  rw [hto] at t1 t2 t3
  have f12 := hF.2 12 (by decide) (by decide)
  have f9 := hF.2 9 (by decide) (by decide)
  have f11 := hF.2 11 (by decide) (by decide)
  have f13 := hF.2 13 (by decide) (by decide)
  have hin101 : vp_in (nI (pn + 1)) 101 := vp_in_nI (by omega) (by decide)
  have hpt0 : I (q + 12) (10 * pn) = nI part := p4 0 (nI part) (by rw [hf]; rfl)
  have g1 := pw_lt l2
  have g2 := pw_pos (nlF 6 part)
  have g3 := pw_lt (k := nlF 6 n - nlF 6 part) (by omega)
  have g4 := pw_pos (nlF 6 n - nlF 6 part)
  have hne1 : ¬ nI (27 ^ nlF 6 part) = 0 := by rw [nI_eq0 (by omega)]; omega
  have hne2 : ¬ nI (27 ^ (nlF 6 n - nlF 6 part)) = 0 := by rw [nI_eq0 (by omega)]; omega
  refine sX6_changed ⟨hF.1, q + 12, f12.1, f12.2.1, by rw [nI_10', f12.2.2]; exact vp_in_nI (show 10 * pn < 1010 by omega) (by decide), ?_⟩
  rw [nI_10', nI_clamp (by omega), hpt0]
  refine ⟨_, tX6_letters hp, fun r8 I9 h8 => ?_⟩
  obtain ⟨rfl, rfl⟩ := h8
  refine ⟨_, tX6_letters hn, fun r17 I18 h17 => ?_⟩
  obtain ⟨rfl, rfl⟩ := h17
  refine ⟨q + 11, f11.1, f11.2.1, by rw [f11.2.2]; exact hin101, ?_⟩
  rw [nI_clamp (by omega), t1, nI_le0 (by omega), pk_sub (by omega)]
  refine ⟨fun z => ?_, fun z => ⟨q + 13, f13.1, f13.2.1, by rw [f13.2.2]; exact vp_in_nI (show 10 * pn < 1010 by omega) (by decide), ?_⟩⟩
  · rcases ht with ⟨ht, rfl⟩ | ht
    · refine ⟨_, tX6_letters (n := 0) (by decide), fun r37 I38 h37 => ?_⟩
      obtain ⟨rfl, rfl⟩ := h37
      rw [nI_add, le6 (by omega)]
      refine ⟨fun y => ⟨q + 9, f9.1, f9.2.1, by rw [f9.2.2]; exact hin101, ?_⟩, fun y => ⟨?_, rfl⟩⟩
      · rw [p1]
        refine ⟨fun y2 => ⟨_, tX6_power l2, fun r43 I44 h43 => ?_⟩, fun y2 => ⟨_, tX6_power (by omega), fun r71 I72 h71 => ?_⟩⟩
        · obtain ⟨rfl, rfl⟩ := h43
          refine ⟨hne1, _, tX6_letters (n := 0) (by decide), fun r53 I54 h53 => ?_⟩
          obtain ⟨rfl, rfl⟩ := h53
          refine ⟨_, tX6_power (by decide), fun r62 I63 h62 => ?_⟩
          obtain ⟨rfl, rfl⟩ := h62
          refine ⟨?_, rfl⟩
          rw [pk_div hn31 g2 (by omega), show (0 : Int32) = nI 0 from rfl, pk_mul, nI_add]
          simp only [chg, y, if_true, chgN, y2, if_false]
        · obtain ⟨rfl, rfl⟩ := h71
          refine ⟨_, tX6_power (by omega), fun r80 I81 h80 => ?_⟩
          obtain ⟨rfl, rfl⟩ := h80
          refine ⟨hne2, ?_, rfl⟩
          rw [pk_rem hn31 g4 (by omega), show (0 : Int32) = nI 0 from rfl, pk_mul, nI_add]
          simp only [chg, y, if_true, chgN, y2]
      · simp only [chg, y, if_false]
    · rw [ht] at z; simp at z
  · rcases ht with ⟨ht, rfl⟩ | ht
    · rw [ht] at z; simp at z
    · have hv : I18 (q + 13) (10 * pn) = nI pt := t3 0 (nI pt) (by rw [ht]; rfl)
      rw [hv]
      refine ⟨_, tX6_letters hpt, fun r37 I38 h37 => ?_⟩
      obtain ⟨rfl, rfl⟩ := h37
      rw [nI_add, le6 (by omega)]
      refine ⟨fun y => ⟨q + 9, f9.1, f9.2.1, by rw [f9.2.2]; exact hin101, ?_⟩, fun y => ⟨?_, rfl⟩⟩
      · rw [p1]
        refine ⟨fun y2 => ⟨_, tX6_power l2, fun r43 I44 h43 => ?_⟩, fun y2 => ⟨_, tX6_power (by omega), fun r71 I72 h71 => ?_⟩⟩
        · obtain ⟨rfl, rfl⟩ := h43
          refine ⟨hne1, _, tX6_letters hpt, fun r53 I54 h53 => ?_⟩
          obtain ⟨rfl, rfl⟩ := h53
          refine ⟨_, tX6_power l3, fun r62 I63 h62 => ?_⟩
          obtain ⟨rfl, rfl⟩ := h62
          refine ⟨?_, rfl⟩
          rw [pk_div hn31 g2 (by omega), pk_mul, nI_add]
          simp only [chg, y, if_true, chgN, y2, if_false]
        · obtain ⟨rfl, rfl⟩ := h71
          refine ⟨_, tX6_power (by omega), fun r80 I81 h80 => ?_⟩
          obtain ⟨rfl, rfl⟩ := h80
          refine ⟨hne2, ?_, rfl⟩
          rw [pk_rem hn31 g4 (by omega), pk_mul, nI_add]
          simp only [chg, y, if_true, chgN, y2]
      · simp only [chg, y, if_false]
end RPART
