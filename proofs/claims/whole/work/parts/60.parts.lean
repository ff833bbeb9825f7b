/-! parts of words: has, changed -/
/-- exactly m letters, all there -/
def okx : Nat → Nat → Bool
  | 0, n => n == 0
  | m + 1, n => n % 27 != 0 && okx m (n / 27)
theorem okx_s {m n : Nat} : okx (m + 1) n = true ↔ n % 27 ≠ 0 ∧ okx m (n / 27) = true := by simp [okx]
theorem okx_div {a : Nat} : ∀ (b w : Nat), okx (a + b) w = true → okx a (w / 27 ^ b) = true
  | 0, w, h => by simpa using h
  | b + 1, w, h => by
    have h1 := (okx_s (m := a + b)).mp h
    have h2 := okx_div b (w / 27) h1.2
    rw [Nat.div_div_eq_div_mul, Nat.mul_comm, ← Nat.pow_succ] at h2
    exact h2
theorem okx_mod {a : Nat} : ∀ (b w : Nat), okx (a + b) w = true → okx b (w % 27 ^ b) = true
  | 0, w, h => by simp [okx, Nat.mod_one]
  | b + 1, w, h => by
    have h1 := (okx_s (m := a + b)).mp h
    have h2 := okx_mod b (w / 27) h1.2
    rw [okx_s]
    have e : w % 27 ^ (b + 1) = w % 27 + 27 * (w / 27 % 27 ^ b) := by rw [Nat.pow_succ, Nat.mul_comm, Nat.mod_mul]
    rw [e]
    refine ⟨by omega, ?_⟩
    rw [show (w % 27 + 27 * (w / 27 % 27 ^ b)) / 27 = w / 27 % 27 ^ b by omega]
    exact h2
theorem okx_app {a u : Nat} (hu : okx a u = true) : ∀ (b v : Nat), okx b v = true → okx (a + b) (u * 27 ^ b + v) = true
  | 0, v, h => by
    have : v = 0 := by simpa [okx] using h
    subst this; simpa using hu
  | b + 1, v, h => by
    have h1 := okx_s.mp h
    have h2 := okx_app hu b (v / 27) h1.2
    rw [show a + (b + 1) = a + b + 1 from rfl, okx_s]
    have e : u * 27 ^ (b + 1) + v = 27 * (u * 27 ^ b) + v := by rw [Nat.pow_succ, ← Nat.mul_assoc, Nat.mul_comm (u * 27 ^ b) 27]
    rw [e]
    refine ⟨by omega, ?_⟩
    rw [show (27 * (u * 27 ^ b) + v) / 27 = u * 27 ^ b + v / 27 by omega]
    exact h2
theorem okx_nl : ∀ (k m n : Nat), okx m n = true → m ≤ k → nlF k n = m
  | 0, m, n, h, hm => by
    have : m = 0 := by omega
    subst this; rfl
  | k + 1, 0, n, h, hm => by
    have : n = 0 := by simpa [okx] using h
    simp [nlF, this]
  | k + 1, m + 1, n, h, hm => by
    have h1 := okx_s.mp h
    unfold nlF
    rw [if_neg (fun z => h1.1 (by rw [z])), okx_nl k m (n / 27) h1.2 (by omega)]
theorem okx_ok : ∀ (k m n : Nat), okx m n = true → m ≤ k → okF k n = true
  | 0, m, n, h, hm => by
    have : m = 0 := by omega
    subst this; exact h
  | k + 1, 0, n, h, hm => by
    have : n = 0 := by simpa [okx] using h
    simp [okF, this]
  | k + 1, m + 1, n, h, hm => by
    have h1 := okx_s.mp h
    rw [okF_step (fun z => h1.1 (by rw [z])) h1.1]
    exact okx_ok k m (n / 27) h1.2 (by omega)
theorem ok_okx : ∀ (k n : Nat), okF k n = true → okx (nlF k n) n = true
  | 0, n, h => h
  | k + 1, n, h => by
    unfold nlF
    by_cases h0 : n = 0
    · rw [if_pos h0, h0]; rfl
    · rw [if_neg h0, okx_s]
      simp only [okF, Bool.or_eq_true, beq_iff_eq, Bool.and_eq_true, bne_iff_ne] at h
      rcases h with h | h
      · exact absurd h h0
      · exact ⟨h.1, ok_okx k (n / 27) h.2⟩
theorem okx_lt : ∀ (m n : Nat), okx m n = true → n < 27 ^ m
  | 0, n, h => by
    have : n = 0 := by simpa [okx] using h
    simp [this]
  | m + 1, n, h => by
    have := okx_lt m (n / 27) (okx_s.mp h).2
    rw [Nat.pow_succ]; omega
theorem okx_pos {m n : Nat} (h : okx (m + 1) n = true) : 0 < n := Nat.pos_of_ne_zero (fun z => (okx_s.mp h).1 (by rw [z]))
/-- a word by its letters -/
theorem wd_okx {x : Int32} : wd x = true ↔ ∃ m n : Nat, m < 6 ∧ okx (m + 1) n = true ∧ x = nI n := by
  refine ⟨fun h => ?_, fun h => ?_⟩
  · obtain ⟨n, h0, h1, rfl, h2⟩ := wd_spec h
    have h3 := ok_okx 6 n h2
    have h4 := nlF_le 6 n
    cases hm : nlF 6 n with
    | zero =>
      rw [hm] at h3
      have : n = 0 := by simpa [okx] using h3
      omega
    | succ m => exact ⟨m, n, by omega, by rw [← hm]; exact h3, rfl⟩
  · obtain ⟨m, n, hm, h1, rfl⟩ := h
    have h2 := okx_lt _ _ h1
    have h3 : 27 ^ (m + 1) ≤ 387420489 := pw_lt (by omega)
    rw [wd_nI (by omega)]
    simp [okx_pos h1, okx_ok 6 _ _ h1 (by omega)]
def hasN (kd : Int32) (part w : Nat) : Bool := decide (nlF 6 part < nlF 6 w) && (if kd = 1 then w / 27 ^ (nlF 6 w - nlF 6 part) == part else w % 27 ^ (nlF 6 part) == part)
def chgN (kd : Int32) (part pt w : Nat) : Nat := if kd = 1 then pt * 27 ^ (nlF 6 w - nlF 6 part) + w % 27 ^ (nlF 6 w - nlF 6 part) else w / 27 ^ (nlF 6 part) * 27 ^ (nlF 6 pt) + pt
/-- what a part phrase makes of a word; none: too long -/
def chg (kd : Int32) (part pt w : Nat) : Option Nat := if nlF 6 w - nlF 6 part + nlF 6 pt ≤ 6 then some (chgN kd part pt w) else none
/-- the first of a list of words, as a number; 0 if there is none -/
def hd0 (l : List Int32) : Nat := (l.headD 0).toNatClampNeg
section PART
variable {l : Launch} {G : Gx} {d : Nat} {K N : TK} {I : TI} {R : TR} {L : TL} {sz : Nat}
theorem sub_pos {a b : Nat} (ha : a < 2 ^ 30) (hb : b < 2 ^ 30) : 0 < nI a - nI b ↔ b < a := by
  rw [Int32.lt_iff_toInt_lt, pk_sub_toInt ha hb]
  have : (0 : Int32).toInt = 0 := rfl
  omega
/-- a phrase of a part: its one word -/
theorem part_word {ph : Phr} (h : okP ph) (hk : ph.1 ≠ 0) : ∃ x n : Nat, x < 6 ∧ okx (x + 1) n = true ∧ ph.2.1 = [nI n] := by
  obtain ⟨h1, h2, h3, h4, h5⟩ := h
  have hl := (h5 hk).1
  match hm : ph.2.1, hl with
  | [y], _ =>
    obtain ⟨m, n, g1, g2, g3⟩ := wd_okx.mp (h3 y (by rw [hm]; exact List.mem_cons_self))
    exact ⟨m, n, g1, g2, by rw [g3]⟩
theorem to_word {ph : Phr} (h : okP ph) (hk : ph.1 ≠ 0) : (ph.2.2 = [] ∧ hd0 ph.2.2 = 0) ∨ ∃ x n : Nat, x < 6 ∧ okx (x + 1) n = true ∧ ph.2.2 = [nI n] ∧ hd0 ph.2.2 = n := by
  obtain ⟨h1, h2, h3, h4, h5⟩ := h
  obtain ⟨-, hl, hw⟩ := h5 hk
  match hm : ph.2.2, hl with
  | [], _ => exact Or.inl ⟨rfl, rfl⟩
  | [y], _ =>
    obtain ⟨m, n, g1, g2, g3⟩ := wd_okx.mp (hw y (by rw [hm]; exact List.mem_cons_self))
    have h6 := okx_lt _ _ g2
    have h7 : 27 ^ (m + 1) ≤ 387420489 := pw_lt (by omega)
    exact Or.inr ⟨m, n, g1, g2, by rw [g3], by rw [g3]; exact nI_clamp (by omega)⟩
theorem tX5_hasPart {a p n part : Nat} {ph : Phr} (hP : phrP K N R a) (hD : PhD I a p ph) (hf : ph.2.1 = [nI part]) (hn : n < 27 ^ 6) (hp : part < 27 ^ 6) : MtI l G yX5_hasPart cX5_hasPart 4 (some .boolean) (d + 1) [.int (nI n), .ref a] K N I R L sz (fun v I' => v = b2i (hasN ph.1 part n) ∧ I' = I) := by
  have h6 := pw_lt (k := 6) (by decide)
  have hn31 : n < 2 ^ 31 := by omega
  have hp31 : part < 2 ^ 31 := by omega
  have l1 := nlF_le 6 n
  have l2 := nlF_le 6 part
  refine sX5_hasPart ⟨hP.1, a + 1, hP.2.1, hP.2.2.1.1, _, tX4_get (j := 0) (x := nI part) hP.2.2.1 hD.2.2.1 (by rw [hf]; rfl), fun r7 I8 h7 => ?_⟩
  obtain ⟨rfl, rfl⟩ := h7
  refine ⟨_, tX5_letters hn31, fun r16 I17 h16 => ?_⟩
  obtain ⟨rfl, rfl⟩ := h16
  refine ⟨_, tX5_letters hp31, fun r25 I26 h25 => ?_⟩
  obtain ⟨rfl, rfl⟩ := h25
  rw [sub_pos (by omega) (by omega)]
  refine ⟨fun q => ⟨fun q2 => ⟨_, tX5_letters hp31, fun r34 I35 h34 => ?_⟩, fun q2 => ?_⟩, fun q => ?_⟩
  · obtain ⟨rfl, rfl⟩ := h34
    rw [hD.2.1] at q2
    refine ⟨_, tX5_lastOf hn31 (nlF_le 6 part), fun r43 I44 h43 => ?_⟩
    obtain ⟨rfl, rfl⟩ := h43
    have hlt : n % 27 ^ nlF 6 part < 2 ^ 31 := Nat.lt_of_le_of_lt (Nat.mod_le _ _) hn31
    rw [nI_eq hlt hp31]
    refine ⟨fun q3 => ⟨?_, rfl⟩, fun q3 => ⟨?_, rfl⟩⟩
    · rw [b2i_f (by simp [hasN, q2, q3])]
    · rw [b2i_t (by simp [hasN, q, q2, q3])]
  · rw [hD.2.1] at q2
    rw [pk_sub (by omega)]
    refine ⟨_, tX5_withoutLast hn31 (by omega), fun r43 I44 h43 => ?_⟩
    obtain ⟨rfl, rfl⟩ := h43
    have hlt : n / 27 ^ (nlF 6 n - nlF 6 part) < 2 ^ 31 := Nat.lt_of_le_of_lt (Nat.div_le_self _ _) hn31
    rw [nI_eq hlt hp31]
    refine ⟨fun q3 => ⟨?_, rfl⟩, fun q3 => ⟨?_, rfl⟩⟩
    · rw [b2i_f (by simp [hasN, q2, q3])]
    · rw [b2i_t (by simp [hasN, q, q2, q3])]
  · exact ⟨by rw [b2i_f (by simp [hasN]; intro z; omega)], rfl⟩
theorem le6 {n : Nat} (h : n < 2 ^ 31) : nI n ≤ 6 ↔ n ≤ 6 := nI_leI h (b := 6) (by decide)
theorem tX5_withPartChanged {a p n part pt : Nat} {ph : Phr} (hP : phrP K N R a) (hD : PhD I a p ph) (hf : ph.2.1 = [nI part]) (ht : (ph.2.2 = [] ∧ pt = 0) ∨ ph.2.2 = [nI pt]) (hn : n < 27 ^ 6) (hp : part < 27 ^ 6) (hpt : pt < 27 ^ 6) (hlt : nlF 6 part < nlF 6 n) : MtI l G yX5_withPartChanged cX5_withPartChanged 5 (some .int) (d + 1) [.int (nI n), .ref a] K N I R L sz (fun v I' => v = (match chg ph.1 part pt n with | some c => nI c | none => -5) ∧ I' = I) := by
  have h6 := pw_lt (k := 6) (by decide)
  have hn31 : n < 2 ^ 31 := by omega
  have hp31 : part < 2 ^ 31 := by omega
  have hpt31 : pt < 2 ^ 31 := by omega
  have l1 := nlF_le 6 n
  have l2 := nlF_le 6 part
  have l3 := nlF_le 6 pt
  refine sX5_withPartChanged ⟨hP.1, a + 1, hP.2.1, hP.2.2.1.1, _, tX4_get (j := 0) (x := nI part) hP.2.2.1 hD.2.2.1 (by rw [hf]; rfl), fun r7 I8 h7 => ?_⟩
  obtain ⟨rfl, rfl⟩ := h7
  refine ⟨_, tX5_letters hp31, fun r16 I17 h16 => ?_⟩
  obtain ⟨rfl, rfl⟩ := h16
  refine ⟨_, tX5_letters hn31, fun r25 I26 h25 => ?_⟩
  obtain ⟨rfl, rfl⟩ := h25
  refine ⟨a + 3, hP.2.2.2.1, hP.2.2.2.2.1, ?_⟩
  rw [hD.2.2.2.1, nI_le0 (by have := hD.2.2.2.2.1; omega), pk_sub (by omega)]
  refine ⟨fun q => ?_, fun q => ?_⟩
  · rcases ht with ⟨ht, rfl⟩ | ht
    · refine ⟨_, tX5_letters (n := 0) (by decide), fun r37 I38 h37 => ?_⟩
      obtain ⟨rfl, rfl⟩ := h37
      rw [nI_add, le6 (by omega)]
      refine ⟨fun y => ⟨fun y2 => ⟨_, tX5_withoutLast hn31 (nlF_le 6 part), fun r46 I47 h46 => ?_⟩, fun y2 => ⟨_, tX5_power (by omega), fun r73 I74 h73 => ?_⟩⟩, fun y => ⟨?_, rfl⟩⟩
      · obtain ⟨rfl, rfl⟩ := h46
        rw [hD.2.1] at y2
        refine ⟨_, tX5_letters (n := 0) (by decide), fun r55 I56 h55 => ?_⟩
        obtain ⟨rfl, rfl⟩ := h55
        refine ⟨_, tX5_power (by decide), fun r64 I65 h64 => ?_⟩
        obtain ⟨rfl, rfl⟩ := h64
        refine ⟨?_, rfl⟩
        rw [show (0 : Int32) = nI 0 from rfl, pk_mul, nI_add]
        simp only [chg, y, if_true, chgN, y2, if_false]
      · obtain ⟨rfl, rfl⟩ := h73
        rw [hD.2.1] at y2
        refine ⟨_, tX5_lastOf hn31 (by omega), fun r82 I83 h82 => ?_⟩
        obtain ⟨rfl, rfl⟩ := h82
        refine ⟨?_, rfl⟩
        rw [show (0 : Int32) = nI 0 from rfl, pk_mul, nI_add]
        simp only [chg, y, if_true, chgN, y2]
      · simp only [chg, y, if_false]
    · rw [ht] at q; simp at q
  · rcases ht with ⟨ht, rfl⟩ | ht
    · rw [ht] at q; simp at q
    · refine ⟨_, tX4_get (j := 0) (x := nI pt) hP.2.2.2.2 hD.2.2.2 (by rw [ht]; rfl), fun r91 I92 h91 => ?_⟩
      obtain ⟨rfl, rfl⟩ := h91
      refine ⟨_, tX5_letters hpt31, fun r37 I38 h37 => ?_⟩
      obtain ⟨rfl, rfl⟩ := h37
      rw [nI_add, le6 (by omega)]
      refine ⟨fun y => ⟨fun y2 => ⟨_, tX5_withoutLast hn31 (nlF_le 6 part), fun r46 I47 h46 => ?_⟩, fun y2 => ⟨_, tX5_power (by omega), fun r73 I74 h73 => ?_⟩⟩, fun y => ⟨?_, rfl⟩⟩
      · obtain ⟨rfl, rfl⟩ := h46
        rw [hD.2.1] at y2
        refine ⟨_, tX5_letters hpt31, fun r55 I56 h55 => ?_⟩
        obtain ⟨rfl, rfl⟩ := h55
        refine ⟨_, tX5_power l3, fun r64 I65 h64 => ?_⟩
        obtain ⟨rfl, rfl⟩ := h64
        refine ⟨?_, rfl⟩
        rw [pk_mul, nI_add]
        simp only [chg, y, if_true, chgN, y2, if_false]
      · obtain ⟨rfl, rfl⟩ := h73
        rw [hD.2.1] at y2
        refine ⟨_, tX5_lastOf hn31 (by omega), fun r82 I83 h82 => ?_⟩
        obtain ⟨rfl, rfl⟩ := h82
        refine ⟨?_, rfl⟩
        rw [pk_mul, nI_add]
        simp only [chg, y, if_true, chgN, y2]
      · simp only [chg, y, if_false]
end PART
