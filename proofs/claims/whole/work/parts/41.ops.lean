/-! what the class's calls do to the data: word, off, from, to -/
theorem TxD.off {I I' : TI} {a t : Nat} {nm : Int32} {es : List Int32} (h : TxD I a t nm es) (h0 : I' a = I a) (h8 : I' (a + 8) = I (a + 8)) : TxD I' a t nm es := by
  unfold TxD TxE at h ⊢; rw [h0, h8]; exact h
theorem StD.off {I I' : TI} {R : TR} {a s : Nat} {st : Stt} {pa : Nat → Nat} (h : StD I R a s st pa) (h0 : I' a = I a) : StD I' R a s st pa := by
  unfold StD at h ⊢; rw [h0]; exact h
theorem PhD.off {I I' : TI} {a p : Nat} {ph : Phr} (h : PhD I a p ph) (hk : ∀ k, k ≤ 4 → I' (a + k) = I (a + k)) : PhD I' a p ph := by
  obtain ⟨h1, h2, h3, h4⟩ := h
  have e0 : I' a = I a := hk 0 (by omega)
  exact ⟨by rw [e0]; exact h1, by rw [e0]; exact h2, h3.off (hk 1 (by omega)) (hk 2 (by omega)), h4.off (hk 3 (by omega)) (hk 4 (by omega))⟩
theorem ClsRep.keepI {K N : TK} {I I' : TI} {R : TR} {o sz : Nat} {tx sa pa : Nat → Nat} {D : Dt} (h : ClsRep K N I R o sz tx sa pa D) (h3 : I' o 3 = I o 3) (h4 : I' o 4 = I o 4) (h5 : I' o 5 = I o 5) (hT : ∀ t, t ≤ D.1.length → I' (tx t) = I (tx t) ∧ I' (tx t + 8) = I (tx t + 8)) (hS : ∀ s, s < D.2.2.1.length → I' (sa s) = I (sa s)) (hP : ∀ p, p < D.2.2.2.length → ∀ k, k ≤ 4 → I' (pa p + k) = I (pa p + k)) : ClsRep K N I' R o sz tx sa pa D := by
  obtain ⟨a1, a2, a3, a4, a5, a6⟩ := h
  refine ⟨a1, ⟨by rw [h3]; exact a2.1, by rw [h4]; exact a2.2.1, by rw [h5]; exact a2.2.2.1, a2.2.2.2⟩, fun t ht => ?_, fun s st hs => ?_, fun p ph hp => ?_, a6⟩
  · obtain ⟨b1, b2, b3⟩ := a3 t ht
    exact ⟨b1, b2, b3.off (hT t ht).1 (hT t ht).2⟩
  · obtain ⟨b1, b2, b3⟩ := a4 s st hs
    exact ⟨b1, b2, b3.off (hS s (List.getElem?_eq_some_iff.mp hs).1)⟩
  · obtain ⟨b1, b2, b3⟩ := a5 p ph hp
    exact ⟨b1, b2, b3.off (hP p (List.getElem?_eq_some_iff.mp hp).1)⟩
theorem ClsRun.off {I I' : TI} {o : Nat} {res : List It} {ring : List Int32} {cp mt : Int32} (h : ClsRun I o res ring cp mt) (hs : ∀ a, o ≤ a → a < o + 20 → I' a = I a) : ClsRun I' o res ring cp mt := by
  obtain ⟨h1, h2, h3, h4, h5, h6⟩ := h
  have e0 := hs o (by omega) (by omega)
  exact ⟨h1.off (fun a q1 q2 => hs a (by omega) (by omega)), by rw [e0]; exact h2, h3, by rw [hs (o + 19) (by omega) (by omega)]; exact h4, by rw [e0]; exact h5, by rw [e0]; exact h6⟩
def addT (D : Dt) (t : Nat) (e : Int32) : Dt := (D.1, va_up D.2.1 t (D.2.1 t ++ [e]), D.2.2)
def setP (D : Dt) (k : Nat) (ph : Phr) : Dt := (D.1, D.2.1, D.2.2.1, D.2.2.2.set k ph)
/-- where a text lies -/
theorem Lay.tx_lo {o sz nt ns np : Nat} {tx sa pa : Nat → Nat} (h : Lay o sz tx sa pa nt ns np) {t : Nat} (ht : t ≤ nt) : o + 20 ≤ tx t ∧ (tx t + 9 ≤ o + 29 ∨ o + 55 ≤ tx t) := by
  by_cases h0 : t = 0
  · subst h0; rw [h.1.1]; omega
  · have := (h.2.1 t (by omega) ht).1; omega
theorem Lay.tt {o sz nt ns np : Nat} {tx sa pa : Nat → Nat} (h : Lay o sz tx sa pa nt ns np) {t t' : Nat} (ht : t ≤ nt) (ht' : t' ≤ nt) (hne : t ≠ t') : tx t + 9 ≤ tx t' ∨ tx t' + 9 ≤ tx t := by
  rcases Nat.lt_or_ge t t' with q | q
  · exact Or.inl (h.2.2.2.2.1 t t' q ht')
  · exact Or.inr (h.2.2.2.2.1 t' t (by omega) ht)
theorem Lay.pp {o sz nt ns np : Nat} {tx sa pa : Nat → Nat} (h : Lay o sz tx sa pa nt ns np) {t t' : Nat} (ht : t < np) (ht' : t' < np) (hne : t ≠ t') : pa t + 5 ≤ pa t' ∨ pa t' + 5 ≤ pa t := by
  rcases Nat.lt_or_ge t t' with q | q
  · exact Or.inl (h.2.2.2.2.2.2.1 t t' q ht')
  · exact Or.inr (h.2.2.2.2.2.2.1 t' t (by omega) ht)
theorem Lay.ss {o sz nt ns np : Nat} {tx sa pa : Nat → Nat} (h : Lay o sz tx sa pa nt ns np) {t t' : Nat} (ht : t < ns) (ht' : t' < ns) (hne : t ≠ t') : sa t + 2 ≤ sa t' ∨ sa t' + 2 ≤ sa t := by
  rcases Nat.lt_or_ge t t' with q | q
  · exact Or.inl (h.2.2.2.2.2.1 t t' q ht')
  · exact Or.inr (h.2.2.2.2.2.1 t' t (by omega) ht)
theorem Lay.ts {o sz nt ns np : Nat} {tx sa pa : Nat → Nat} (h : Lay o sz tx sa pa nt ns np) {t s : Nat} (ht : t ≤ nt) (hs : s < ns) : tx t + 9 ≤ sa s ∨ sa s + 2 ≤ tx t := h.2.2.2.2.2.2.2.1 t s ht hs
theorem Lay.tp {o sz nt ns np : Nat} {tx sa pa : Nat → Nat} (h : Lay o sz tx sa pa nt ns np) {t p : Nat} (ht : t ≤ nt) (hp : p < np) : tx t + 9 ≤ pa p ∨ pa p + 5 ≤ tx t := h.2.2.2.2.2.2.2.2.1 t p ht hp
theorem Lay.sp {o sz nt ns np : Nat} {tx sa pa : Nat → Nat} (h : Lay o sz tx sa pa nt ns np) {s p : Nat} (hs : s < ns) (hp : p < np) : sa s + 2 ≤ pa p ∨ pa p + 5 ≤ sa s := h.2.2.2.2.2.2.2.2.2 s p hs hp
theorem Lay.p_lo {o sz nt ns np : Nat} {tx sa pa : Nat → Nat} (h : Lay o sz tx sa pa nt ns np) {p : Nat} (hp : p < np) : o + 55 ≤ pa p := (h.2.2.2.1 p hp).1
theorem Lay.s_lo {o sz nt ns np : Nat} {tx sa pa : Nat → Nat} (h : Lay o sz tx sa pa nt ns np) {s : Nat} (hs : s < ns) : o + 55 ≤ sa s := (h.2.2.1 s hs).1
theorem ClsRep.addT {K N : TK} {I : TI} {R : TR} {o sz : Nat} {tx sa pa : Nat → Nat} {D : Dt} (h : ClsRep K N I R o sz tx sa pa D) {t : Nat} {e : Int32} (ht : t ≤ D.1.length) (hn : (D.2.1 t).length < 200) : ClsRep K N (tapp I (tx t) (D.2.1 t).length (cv e)) R o sz tx sa pa (addT D t e) := by
  obtain ⟨a1, a2, a3, a4, a5, a6⟩ := h
  have hlo := (a6.tx_lo ht).1
  have ho : tapp I (tx t) (D.2.1 t).length (cv e) o = I o := tapp_off (by omega) (by omega)
  refine ⟨a1, ⟨by rw [ho]; exact a2.1, by rw [ho]; exact a2.2.1, by rw [ho]; exact a2.2.2.1, a2.2.2.2⟩, fun t' ht' => ?_, fun s st hs => ?_, fun p ph hp => ?_, a6⟩
  · obtain ⟨b1, b2, b3⟩ := a3 t' ht'
    refine ⟨b1, b2, ?_⟩
    by_cases hq : t' = t
    · subst hq
      refine ⟨by rw [tapp_k (by decide)]; exact b3.1, by rw [tapp_k (by decide)]; exact b3.2.1, ?_⟩
      have hx := tapp_D (x := cv e) b3.2.2 (by simpa using hn)
      simp only [List.length_map] at hx
      show TxE _ _ (((va_up D.2.1 t' (D.2.1 t' ++ [e])) t').map cv)
      rw [va_up_self, List.map_append]
      exact hx
    · have hd := a6.tt ht ht' (fun z => hq z.symm)
      show TxD _ _ _ _ (((va_up D.2.1 t (D.2.1 t ++ [e])) t').map cv)
      rw [va_up_ne _ _ hq]
      exact b3.off (tapp_off (by omega) (by omega)) (tapp_off (by omega) (by omega))
  · obtain ⟨b1, b2, b3⟩ := a4 s st hs
    have hd := a6.ts ht (List.getElem?_eq_some_iff.mp hs).1
    exact ⟨b1, b2, b3.off (tapp_off (by omega) (by omega))⟩
  · obtain ⟨b1, b2, b3⟩ := a5 p ph hp
    have hd := a6.tp ht (List.getElem?_eq_some_iff.mp hp).1
    exact ⟨b1, b2, b3.off (fun k hk => tapp_off (by omega) (by omega))⟩
theorem ClsRun.tapp {I : TI} {o a n : Nat} {x : Int32} {res : List It} {ring : List Int32} {cp mt : Int32} (h : ClsRun I o res ring cp mt) (ha : o + 20 ≤ a) : ClsRun (tapp I a n x) o res ring cp mt := h.off (fun b q1 q2 => tapp_off (by omega) (by omega))
theorem plOk_ne {e : Int32} (h : plOk e = true) : ¬ e < -1000 := by
  unfold plOk at h
  simp only [Bool.or_eq_true, beq_iff_eq] at h
  rcases h with (h | h) | h
  · rw [h]; decide
  · rw [h]; decide
  · obtain ⟨n, h0, h1, rfl, -⟩ := wd_spec h
    have hn : n < 2 ^ 31 := by have := pw_lt (k := 6) (by decide); omega
    intro q
    rw [Int32.lt_iff_toInt_lt, nI_toInt hn] at q
    have : ((-1000 : Int32)).toInt = -1000 := rfl
    omega
theorem cv_pl {e : Int32} (h : plOk e = true) : cv e = e := by
  have h1 := plOk_ne h
  unfold cv
  have h2 : ¬ e = -3000 := fun z => h1 (by rw [z]; decide)
  have h3 : ¬ e < -2000 := fun z => h1 (by
    rw [Int32.lt_iff_toInt_lt] at z ⊢
    have q1 : ((-1000 : Int32)).toInt = -1000 := rfl
    have q2 : ((-2000 : Int32)).toInt = -2000 := rfl
    omega)
  rw [if_neg h2, if_neg h3, if_neg h1]
def fWord (D : Dt) (t w : Int32) : Int32 × Dt := match tOf D t with
  | none => (-2, D)
  | some k => if plOk w then (if (D.2.1 k).length < 200 then (nI ((D.2.1 k).length + 1), addT D k w) else (-1, D)) else (-4, D)
def fOff (D : Dt) (t : Int32) : Int32 × Dt := match tOf D t with
  | none => (-2, D)
  | some k => if (D.2.1 k).length < 200 then (nI ((D.2.1 k).length + 1), addT D k (-3000)) else (-1, D)
/-- the other side's cells stay -/
def keepO (I I' : TI) (o : Nat) : Prop := ∀ a, o + 29 ≤ a → a < o + 55 → I' a = I a
theorem keepO.rf {I : TI} {o : Nat} : keepO I I o := fun _ _ _ => rfl
theorem keepO.tapp {I : TI} {o a n : Nat} {x : Int32} (ha : a + 9 ≤ o + 29 ∨ o + 55 ≤ a) : keepO I (tapp I a n x) o := fun b h1 h2 => tapp_off (by omega) (by omega)
section OPS
variable {l : Launch} {G : Gx} {d : Nat} {K N : TK} {I : TI} {R : TR} {L : TL} {sz : Nat} {o : Nat} {tx sa pa : Nat → Nat} {D : Dt} {res : List It} {ring : List Int32} {cp mt : Int32}
/-- what holds behind a call that makes no cell -/
def AftI (K N : TK) (R : TR) (o sz : Nat) (tx sa pa : Nat → Nat) (res : List It) (ring : List Int32) (cp mt : Int32) (I : TI) (x : Int32 × Dt) (v : Int32) (I' : TI) : Prop := v = x.1 ∧ ClsRep K N I' R o sz tx sa pa x.2 ∧ ClsRun I' o res ring cp mt ∧ keepO I I' o
theorem tX5_word {t w : Int32} (h : ClsRep K N I R o sz tx sa pa D) (hr : ClsRun I o res ring cp mt) : MtI l G yX5_word cX5_word 4 (some .int) (d + 2) [.ref o, .int t, .int w] K N I R L sz (AftI K N R o sz tx sa pa res ring cp mt I (fWord D t w)) := by
  obtain ⟨a1, a2, a3, a4, a5, a6⟩ := id h
  refine sX5_word (d := d + 1) ⟨a1.1, _, tX5_textNumbered a1 a2 a3, fun v I' hv => ?_⟩
  obtain ⟨rfl, rfl⟩ := hv
  refine ⟨fun q => ?_, fun b hb => ?_⟩
  · have : tOf D t = none := by simpa using q
    unfold fWord; rw [this]
    exact ⟨rfl, h, hr, keepO.rf⟩
  · obtain ⟨k, hk, rfl⟩ : ∃ k, tOf D t = some k ∧ tx k = b := by simpa using hb
    obtain ⟨hk1, -⟩ := tOf_spec a2.2.2.2.1 hk
    obtain ⟨-, b2, b3⟩ := a3 k hk1
    unfold fWord; rw [hk]
    refine ⟨_, tX5_isPlain, fun v I2 hv => ?_⟩
    obtain ⟨rfl, rfl⟩ := hv
    refine ⟨fun q => ⟨b2.1, _, tX3_append b2 b3.2.2, fun v I3 hv => ?_⟩, fun q => ?_⟩
    · have hp : plOk w = true := by rw [b2i_ne0] at q; exact q
      simp only [List.length_map] at hv
      simp only [hp, if_true]
      rcases hv with ⟨hn, rfl, rfl⟩ | ⟨hn, rfl, rfl⟩
      · refine ⟨fun z => absurd z (by decide), fun _ => ?_⟩
        rw [if_pos hn]
        have hc := h.addT (e := w) hk1 hn
        rw [cv_pl hp] at hc
        refine ⟨?_, hc, hr.tapp (a6.tx_lo hk1).1, keepO.tapp (a6.tx_lo hk1).2⟩
        simp [tapp, u2_self]
      · refine ⟨fun _ => ?_, fun z => absurd rfl z⟩
        rw [if_neg (by omega)]
        exact ⟨rfl, h, hr, keepO.rf⟩
    · have hp : plOk w = false := by rw [b2i_eq0] at q; exact q
      simp only [hp]
      exact ⟨rfl, h, hr, keepO.rf⟩
theorem tX5_off {t : Int32} (h : ClsRep K N I R o sz tx sa pa D) (hr : ClsRun I o res ring cp mt) : MtI l G yX5_off cX5_off 3 (some .int) (d + 1) [.ref o, .int t] K N I R L sz (AftI K N R o sz tx sa pa res ring cp mt I (fOff D t)) := by
  obtain ⟨a1, a2, a3, a4, a5, a6⟩ := id h
  refine sX5_off ⟨a1.1, _, tX5_textNumbered a1 a2 a3, fun v I' hv => ?_⟩
  obtain ⟨rfl, rfl⟩ := hv
  refine ⟨fun q => ?_, fun b hb => ?_⟩
  · have : tOf D t = none := by simpa using q
    unfold fOff; rw [this]
    exact ⟨rfl, h, hr, keepO.rf⟩
  · obtain ⟨k, hk, rfl⟩ : ∃ k, tOf D t = some k ∧ tx k = b := by simpa using hb
    obtain ⟨hk1, -⟩ := tOf_spec a2.2.2.2.1 hk
    obtain ⟨-, b2, b3⟩ := a3 k hk1
    unfold fOff; rw [hk]
    refine ⟨b2.1, _, tX3_append b2 b3.2.2, fun v I3 hv => ?_⟩
    simp only [List.length_map] at hv
    rcases hv with ⟨hn, rfl, rfl⟩ | ⟨hn, rfl, rfl⟩
    · refine ⟨fun z => absurd z (by decide), fun _ => ?_⟩
      simp only [hn, if_true]
      have hc := h.addT (e := -3000) hk1 hn
      rw [show cv (-3000) = -2 from by decide] at hc
      refine ⟨?_, hc, hr.tapp (a6.tx_lo hk1).1, keepO.tapp (a6.tx_lo hk1).2⟩
      simp [tapp, u2_self]
    · refine ⟨fun _ => ?_, fun z => absurd rfl z⟩
      simp only [show ¬ (D.2.1 k).length < 200 by omega, if_false]
      exact ⟨rfl, h, hr, keepO.rf⟩
end OPS
