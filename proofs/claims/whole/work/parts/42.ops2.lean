/-! from, to, place, ring, count of the class -/
theorem ge10 {n : Nat} (h : decide (10 ≤ n) = true) : ¬ n < 10 := by
  have := of_decide_eq_true h
  omega
theorem ClsRep.withP {K N : TK} {I I' : TI} {R : TR} {o sz : Nat} {tx sa pa : Nat → Nat} {D : Dt} (h : ClsRep K N I R o sz tx sa pa D) {k : Nat} {ph : Phr} (hk : k < D.2.2.2.length) (hI : ∀ b, (b < pa k ∨ pa k + 5 ≤ b) → I' b = I b) (hp : PhD I' (pa k) k ph) : ClsRep K N I' R o sz tx sa pa (setP D k ph) := by
  obtain ⟨a1, a2, a3, a4, a5, a6⟩ := h
  have hlo := a6.p_lo hk
  have ho : I' o = I o := hI o (by omega)
  have hlen : (setP D k ph).2.2.2.length = D.2.2.2.length := by simp [setP]
  refine ⟨a1, ⟨by rw [ho]; exact a2.1, by rw [ho]; exact a2.2.1, by rw [ho, hlen]; exact a2.2.2.1, a2.2.2.2.1, a2.2.2.2.2.1, by rw [hlen]; exact a2.2.2.2.2.2⟩, fun t ht => ?_, fun s st hs => ?_, fun p ph' hp' => ?_, ?_⟩
  · obtain ⟨b1, b2, b3⟩ := a3 t ht
    have hd := a6.tp ht hk
    exact ⟨b1, b2, b3.off (hI _ (by omega)) (hI _ (by omega))⟩
  · obtain ⟨b1, b2, b3⟩ := a4 s st hs
    have hd := a6.sp (List.getElem?_eq_some_iff.mp hs).1 hk
    exact ⟨b1, b2, b3.off (hI _ (by omega))⟩
  · have hp2 : (D.2.2.2.set k ph)[p]? = some ph' := hp'
    have hpl : p < D.2.2.2.length := by have := (List.getElem?_eq_some_iff.mp hp2).1; simpa using this
    by_cases hq : p = k
    · subst hq
      rw [List.getElem?_set_self hk] at hp2
      cases hp2
      obtain ⟨b1, b2, -⟩ := a5 p _ (List.getElem?_eq_getElem hk)
      exact ⟨b1, b2, hp⟩
    · rw [List.getElem?_set_ne (fun z => hq z.symm)] at hp2
      obtain ⟨b1, b2, b3⟩ := a5 p ph' hp2
      have hd := a6.pp hpl hk hq
      exact ⟨b1, b2, b3.off (fun j hj => hI _ (by omega))⟩
  · unfold LayD; rw [hlen]; exact a6
def fFrom (D : Dt) (p w : Int32) : Int32 × Dt := match nOf D.2.2.2.length p with
  | none => (-2, D)
  | some k => match D.2.2.2[k]? with
    | none => (-2, D)
    | some ph => if plOk w then (if ph.1 = 0 ∧ ph.2.1.length < 10 then (if w ≤ 0 then (nI ph.2.1.length, D) else (nI (ph.2.1.length + 1), setP D k (ph.1, ph.2.1 ++ [w], ph.2.2))) else (-1, D)) else (-4, D)
def fTo (D : Dt) (p w : Int32) : Int32 × Dt := match nOf D.2.2.2.length p with
  | none => (-2, D)
  | some k => match D.2.2.2[k]? with
    | none => (-2, D)
    | some ph => if (if ph.1 = 0 then plOk w else wd w) = true then (if ph.2.2.length < (if ph.1 = 0 then 10 else 1) then (nI (ph.2.2.length + 1), setP D k (ph.1, ph.2.1, ph.2.2 ++ [w])) else (-1, D)) else (-4, D)
section OPS2
variable {l : Launch} {G : Gx} {d : Nat} {K N : TK} {I : TI} {R : TR} {L : TL} {sz : Nat} {o : Nat} {tx sa pa : Nat → Nat} {D : Dt} {res : List It} {ring : List Int32} {cp mt : Int32}
theorem wapp_far {I : TI} {a n b q : Nat} {x : Int32} (h : a ≤ q ∧ q + 1 < a + 5) (hb : b < a ∨ a + 5 ≤ b) : wapp I q n x b = I b := wapp_off (by omega) (by omega)
theorem tX5_from {p w : Int32} (h : ClsRep K N I R o sz tx sa pa D) (hr : ClsRun I o res ring cp mt) : MtI l G yX5_from cX5_from 4 (some .int) (d + 2) [.ref o, .int p, .int w] K N I R L sz (AftI K N R o sz tx sa pa res ring cp mt I (fFrom D p w)) := by
  obtain ⟨a1, a2, a3, a4, a5, a6⟩ := id h
  have h100 := a2.2.2.2.2.2
  refine sX5_from (d := d + 1) ⟨a1.1, _, tX5_phraseNumbered a1 a2 a5, fun v I' hv => ?_⟩
  obtain ⟨rfl, rfl⟩ := hv
  refine ⟨fun q => ?_, fun b hb => ?_⟩
  · have : nOf D.2.2.2.length p = none := by simpa using q
    unfold fFrom; rw [this]
    exact ⟨rfl, h, hr, keepO.rf⟩
  · obtain ⟨k, hk, rfl⟩ : ∃ k, nOf D.2.2.2.length p = some k ∧ pa k = b := by simpa using hb
    obtain ⟨hk1, -⟩ := nOf_spec (by omega) hk
    obtain ⟨ph, hph⟩ : ∃ ph, D.2.2.2[k]? = some ph := ⟨_, List.getElem?_eq_getElem hk1⟩
    obtain ⟨-, b2, b3⟩ := a5 k ph hph
    have hlo := a6.p_lo hk1
    unfold fFrom; rw [hk]; simp only [hph]
    refine ⟨_, tX5_isPlain, fun v I2 hv => ?_⟩
    obtain ⟨rfl, rfl⟩ := hv
    refine ⟨fun q => ⟨b2.1, fun q2 => ?_, fun q2 => ⟨pa k + 1, b2.2.1, b2.2.2.1.1, _, tX4_isFull b2.2.2.1 b3.2.2.1, fun v I3 hv => ?_⟩⟩, fun q => ?_⟩
    · rw [b2i_ne0] at q
      rw [b3.2.1] at q2
      simp only [q, if_true]
      rw [if_neg (by intro z; exact q2 z.1)]
      exact ⟨rfl, h, hr, keepO.rf⟩
    · obtain ⟨rfl, rfl⟩ := hv
      rw [b2i_ne0] at q
      rw [b3.2.1] at q2
      simp only [q, if_true]
      refine ⟨fun q3 => ?_, fun q3 => ?_⟩
      · rw [b2i_eq0] at q3
        have hn : ph.2.1.length < 10 := by simpa using q3
        rw [if_pos ⟨q2, hn⟩]
        refine ⟨fun q4 => ?_, fun q4 => ⟨_, tX4_append b2.2.2.1 b3.2.2.1 hn, fun I5 hI5 => ?_⟩⟩
        · rw [if_pos q4]
          exact ⟨b3.2.2.1.1, h, hr, keepO.rf⟩
        · rw [if_neg q4]
          subst hI5
          refine ⟨by simp [wapp, u2_self], h.withP hk1 (fun b hb => wapp_far (by omega) hb) ⟨?_, ?_, wapp_D b3.2.2.1 hn, b3.2.2.2.off (wapp_off (by omega) (by omega)) (wapp_off (by omega) (by omega))⟩, hr.off (fun b h1 h2 => wapp_off (by omega) (by omega)), fun b h1 h2 => wapp_off (by omega) (by omega)⟩
          · rw [wapp_off (by omega) (by omega)]; exact b3.1
          · rw [wapp_off (by omega) (by omega)]; exact b3.2.1
      · rw [b2i_ne0] at q3
        have hn : ¬ ph.2.1.length < 10 := ge10 q3
        rw [if_neg (fun z => hn z.2)]
        exact ⟨rfl, h, hr, keepO.rf⟩
    · rw [b2i_eq0] at q
      simp only [q]
      exact ⟨rfl, h, hr, keepO.rf⟩
theorem to_app {k : Nat} {ph : Phr} {w : Int32} (h : ClsRep K N I R o sz tx sa pa D) (hr : ClsRun I o res ring cp mt) (hk : k < D.2.2.2.length) (b3 : PhD I (pa k) k ph) (hn : ph.2.2.length < 10) : AftI K N R o sz tx sa pa res ring cp mt I (nI (ph.2.2.length + 1), setP D k (ph.1, ph.2.1, ph.2.2 ++ [w])) (wapp I (pa k + 3) ph.2.2.length w (pa k + 3) 1) (wapp I (pa k + 3) ph.2.2.length w) := by
  have hlo := h.2.2.2.2.2.p_lo hk
  refine ⟨by simp [wapp, u2_self], h.withP hk (fun b hb => wapp_far (by omega) hb) ⟨?_, ?_, b3.2.2.1.off (wapp_off (by omega) (by omega)) (wapp_off (by omega) (by omega)), wapp_D b3.2.2.2 hn⟩, hr.off (fun b h1 h2 => wapp_off (by omega) (by omega)), fun b h1 h2 => wapp_off (by omega) (by omega)⟩
  · rw [wapp_off (by omega) (by omega)]; exact b3.1
  · rw [wapp_off (by omega) (by omega)]; exact b3.2.1
theorem tX5_to {p w : Int32} (h : ClsRep K N I R o sz tx sa pa D) (hr : ClsRun I o res ring cp mt) : MtI l G yX5_to cX5_to 5 (some .int) (d + 2) [.ref o, .int p, .int w] K N I R L sz (AftI K N R o sz tx sa pa res ring cp mt I (fTo D p w)) := by
  obtain ⟨a1, a2, a3, a4, a5, a6⟩ := id h
  have h100 := a2.2.2.2.2.2
  refine sX5_to (d := d + 1) ⟨a1.1, _, tX5_phraseNumbered a1 a2 a5, fun v I' hv => ?_⟩
  obtain ⟨rfl, rfl⟩ := hv
  refine ⟨fun q => ?_, fun b hb => ?_⟩
  · have : nOf D.2.2.2.length p = none := by simpa using q
    unfold fTo; rw [this]
    exact ⟨rfl, h, hr, keepO.rf⟩
  · obtain ⟨k, hk, rfl⟩ : ∃ k, nOf D.2.2.2.length p = some k ∧ pa k = b := by simpa using hb
    obtain ⟨hk1, -⟩ := nOf_spec (by omega) hk
    obtain ⟨ph, hph⟩ : ∃ ph, D.2.2.2[k]? = some ph := ⟨_, List.getElem?_eq_getElem hk1⟩
    obtain ⟨-, b2, b3⟩ := a5 k ph hph
    unfold fTo; rw [hk]; simp only [hph]
    refine ⟨b2.1, fun q => ?_, fun q => ?_⟩
    · rw [b3.2.1] at q
      simp only [q, if_true]
      refine ⟨_, tX5_isPlain, fun v I2 hv => ?_⟩
      obtain ⟨rfl, rfl⟩ := hv
      refine ⟨fun q2 => ⟨pa k + 3, b2.2.2.2.1, b2.2.2.2.2.1, _, tX4_isFull b2.2.2.2.2 b3.2.2.2, fun v I3 hv => ?_⟩, fun q2 => ?_⟩
      · obtain ⟨rfl, rfl⟩ := hv
        rw [b2i_ne0] at q2
        simp only [q2, if_true]
        refine ⟨fun q3 => ?_, fun q3 => ⟨_, tX4_append b2.2.2.2.2 b3.2.2.2 (by rw [b2i_eq0] at q3; simpa using q3), fun I5 hI5 => ?_⟩⟩
        · rw [b2i_ne0] at q3
          rw [if_neg (by have := ge10 q3; first | exact this | (simp only [q, if_false]; omega) | omega)]
          exact ⟨rfl, h, hr, keepO.rf⟩
        · rw [b2i_eq0] at q3
          have hn : ph.2.2.length < 10 := by simpa using q3
          rw [if_pos hn]
          subst hI5
          exact q ▸ to_app h hr hk1 b3 hn
      · rw [b2i_eq0] at q2
        simp only [q2]
        exact ⟨rfl, h, hr, keepO.rf⟩
    · rw [b3.2.1] at q
      simp only [q, if_false]
      refine ⟨_, tX5_isWord, fun v I2 hv => ?_⟩
      obtain ⟨rfl, rfl⟩ := hv
      refine ⟨fun q2 => ⟨pa k + 3, b2.2.2.2.1, b2.2.2.2.2.1, _, tX4_isFull b2.2.2.2.2 b3.2.2.2, fun v I3 hv => ?_⟩, fun q2 => ?_⟩
      · obtain ⟨rfl, rfl⟩ := hv
        rw [b2i_ne0] at q2
        simp only [q2, if_true]
        refine ⟨fun q3 => ?_, fun q3 => ⟨fun q4 => ⟨_, tX4_append b2.2.2.2.2 b3.2.2.2 (by rw [b2i_eq0] at q3; simpa using q3), fun I5 hI5 => ?_⟩, fun q4 => ?_⟩⟩
        · rw [b2i_ne0] at q3
          rw [if_neg (by have := ge10 q3; first | exact this | (simp only [q, if_false]; omega) | omega)]
          exact ⟨rfl, h, hr, keepO.rf⟩
        · rw [b2i_eq0] at q3
          have hn : ph.2.2.length < 10 := by simpa using q3
          rw [b3.2.2.2.1, nI_le0 (by omega)] at q4
          rw [if_pos (by omega)]
          subst hI5
          exact to_app h hr hk1 b3 hn
        · rw [b3.2.2.2.1, nI_le0 (by have := b3.2.2.2.2.1; omega)] at q4
          rw [if_neg (by omega)]
          exact ⟨rfl, h, hr, keepO.rf⟩
      · rw [b2i_eq0] at q2
        simp only [q2]
        exact ⟨rfl, h, hr, keepO.rf⟩
end OPS2
