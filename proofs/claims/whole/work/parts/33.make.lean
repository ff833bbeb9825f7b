/-! the class's constructors: new words, phrases, rows, statements, texts -/
/-- what stays -/
def FrB (K N : TK) (I : TI) (R : TR) (K' N' : TK) (I' : TI) (R' : TR) (b : Nat) : Prop := ∀ a, a < b → K' a = K a ∧ N' a = N a ∧ I' a = I a ∧ R' a = R a
theorem FrB.tr {K N K1 N1 K2 N2 : TK} {I I1 I2 : TI} {R R1 R2 : TR} {b c : Nat} (h : FrB K N I R K1 N1 I1 R1 b) (h2 : FrB K1 N1 I1 R1 K2 N2 I2 R2 c) (hc : b ≤ c) : FrB K N I R K2 N2 I2 R2 b := fun a ha => by
  obtain ⟨p1, p2, p3, p4⟩ := h a ha
  obtain ⟨q1, q2, q3, q4⟩ := h2 a (by omega)
  exact ⟨q1.trans p1, q2.trans p2, q3.trans p3, q4.trans p4⟩
section MAKE
variable {l : Launch} {G : Gx} {d : Nat} {K N : TK} {I : TI} {R : TR} {L : TL}
theorem tX4_init {w : Nat} (hK : K w = 15) (hI : I w = fun _ => 0) : MtAV l G yX4_init cX4_init 1 none (d + 1) 1 10 [.ref w] K N I R L (w + 1) (fun K' N' I' R' sz' => wrdP K' N' R' w ∧ WrdD I' w [] ∧ sz' = w + 2 ∧ FrB K N I R K' N' I' R' w ∧ I' w = I w) := by
  refine sX4_init (fun K1 e1 N4 e4 I2 e2 z5 e5 => ⟨by rw [e1, va_up_ne _ _ (by omega)]; exact hK, fun R7 e7 => ?_⟩)
  subst e1; subst e4; subst e2; subst e5; subst e7
  have hIw : va_up I (w + 1) (fun _ => 0) w = I w := va_up_ne _ _ (by omega)
  refine ⟨⟨by rw [va_up_ne _ _ (by omega)]; exact hK, u2_self _ _ _ _, va_up_self _ _ _, va_up_self _ _ _⟩, ⟨by rw [hIw, hI]; rfl, by simp, ListAt.nil⟩, rfl, fun a ha => ⟨va_up_ne _ _ (by omega), va_up_ne _ _ (by omega), va_up_ne _ _ (by omega), u2_ne _ _ (by omega)⟩, hIw⟩
theorem tX1_init {r : Nat} (hK : K r = 12) (hI : I r = fun _ => 0) : MtAV l G yX1_init cX1_init 1 none (d + 1) 6 1800 [.ref r] K N I R L (r + 1) (fun K' N' I' R' sz' => rowP K' N' R' r ∧ RowIs I' r [] ∧ sz' = r + 7 ∧ FrB K N I R K' N' I' R' r) := by
  refine sX1_init (fun K1 e1 N4 e4 I2 e2 z5 e5 => ⟨by rw [e1, va_up_ne _ _ (by omega)]; exact hK, fun R7 e7 K8 e8 N11 e11 I9 e9 z12 e12 => ?_⟩)
  have k8 : K8 r = 12 := by rw [e8, e5, va_up_ne _ _ (by omega), e1, va_up_ne _ _ (by omega)]; exact hK
  refine ⟨k8, fun R14 e14 K15 e15 N18 e18 I16 e16 z19 e19 => ?_⟩
  have k15 : K15 r = 12 := by rw [e15, va_up_ne _ _ (by omega)]; exact k8
  refine ⟨k15, fun R21 e21 K22 e22 N25 e25 I23 e23 z26 e26 => ?_⟩
  have k22 : K22 r = 12 := by rw [e22, va_up_ne _ _ (by omega)]; exact k15
  refine ⟨k22, fun R28 e28 K29 e29 N32 e32 I30 e30 z33 e33 => ?_⟩
  have k29 : K29 r = 12 := by rw [e29, va_up_ne _ _ (by omega)]; exact k22
  refine ⟨k29, fun R35 e35 K36 e36 N39 e39 I37 e37 z40 e40 => ?_⟩
  have k36 : K36 r = 12 := by rw [e36, va_up_ne _ _ (by omega)]; exact k29
  refine ⟨k36, fun R42 e42 => ?_⟩
  obtain rfl : z5 = r + 2 := by omega
  obtain rfl : z12 = r + 3 := by omega
  obtain rfl : z19 = r + 4 := by omega
  obtain rfl : z26 = r + 5 := by omega
  obtain rfl : z33 = r + 6 := by omega
  obtain rfl : z40 = r + 7 := by omega
  have hne : ∀ i j : Nat, i ≠ j → r + i ≠ r + j := fun i j h q => h (by omega)
  refine ⟨⟨k36, ⟨?_, ?_, ?_⟩, ⟨?_, ?_, ?_⟩, ⟨?_, ?_, ?_⟩, ⟨?_, ?_, ?_⟩, ⟨?_, ?_, ?_⟩, ⟨?_, ?_, ?_⟩⟩, ⟨?_, by simp, fun j x h => by simp at h⟩, rfl, fun a ha => ⟨?_, ?_, ?_, ?_⟩⟩
  · rw [e42, u2_nk _ _ (by decide), e35, u2_nk _ _ (by decide), e28, u2_nk _ _ (by decide), e21, u2_nk _ _ (by decide), e14, u2_nk _ _ (by decide), e7, u2_self]
  · rw [e36, va_up_ne _ _ (by omega), e29, va_up_ne _ _ (by omega), e22, va_up_ne _ _ (by omega), e15, va_up_ne _ _ (by omega), e8, va_up_ne _ _ (by omega), e1, va_up_self]
  · rw [e39, va_up_ne _ _ (by omega), e32, va_up_ne _ _ (by omega), e25, va_up_ne _ _ (by omega), e18, va_up_ne _ _ (by omega), e11, va_up_ne _ _ (by omega), e4, va_up_self]
  · rw [e42, u2_nk _ _ (by decide), e35, u2_nk _ _ (by decide), e28, u2_nk _ _ (by decide), e21, u2_nk _ _ (by decide), e14, u2_self]
  · rw [e36, va_up_ne _ _ (by omega), e29, va_up_ne _ _ (by omega), e22, va_up_ne _ _ (by omega), e15, va_up_ne _ _ (by omega), e8, va_up_self]
  · rw [e39, va_up_ne _ _ (by omega), e32, va_up_ne _ _ (by omega), e25, va_up_ne _ _ (by omega), e18, va_up_ne _ _ (by omega), e11, va_up_self]
  · rw [e42, u2_nk _ _ (by decide), e35, u2_nk _ _ (by decide), e28, u2_nk _ _ (by decide), e21, u2_self]
  · rw [e36, va_up_ne _ _ (by omega), e29, va_up_ne _ _ (by omega), e22, va_up_ne _ _ (by omega), e15, va_up_self]
  · rw [e39, va_up_ne _ _ (by omega), e32, va_up_ne _ _ (by omega), e25, va_up_ne _ _ (by omega), e18, va_up_self]
  · rw [e42, u2_nk _ _ (by decide), e35, u2_nk _ _ (by decide), e28, u2_self]
  · rw [e36, va_up_ne _ _ (by omega), e29, va_up_ne _ _ (by omega), e22, va_up_self]
  · rw [e39, va_up_ne _ _ (by omega), e32, va_up_ne _ _ (by omega), e25, va_up_self]
  · rw [e42, u2_nk _ _ (by decide), e35, u2_self]
  · rw [e36, va_up_ne _ _ (by omega), e29, va_up_self]
  · rw [e39, va_up_ne _ _ (by omega), e32, va_up_self]
  · rw [e42, u2_self]
  · rw [e36, va_up_self]
  · rw [e39, va_up_self]
  · rw [e37, va_up_ne _ _ (by omega), e30, va_up_ne _ _ (by omega), e23, va_up_ne _ _ (by omega), e16, va_up_ne _ _ (by omega), e9, va_up_ne _ _ (by omega), e2, va_up_ne _ _ (by omega), hI]; rfl
  · rw [e36, va_up_ne _ _ (by omega), e29, va_up_ne _ _ (by omega), e22, va_up_ne _ _ (by omega), e15, va_up_ne _ _ (by omega), e8, va_up_ne _ _ (by omega), e1, va_up_ne _ _ (by omega)]
  · rw [e39, va_up_ne _ _ (by omega), e32, va_up_ne _ _ (by omega), e25, va_up_ne _ _ (by omega), e18, va_up_ne _ _ (by omega), e11, va_up_ne _ _ (by omega), e4, va_up_ne _ _ (by omega)]
  · rw [e37, va_up_ne _ _ (by omega), e30, va_up_ne _ _ (by omega), e23, va_up_ne _ _ (by omega), e16, va_up_ne _ _ (by omega), e9, va_up_ne _ _ (by omega), e2, va_up_ne _ _ (by omega)]
  · rw [e42, u2_ne _ _ (by omega), e35, u2_ne _ _ (by omega), e28, u2_ne _ _ (by omega), e21, u2_ne _ _ (by omega), e14, u2_ne _ _ (by omega), e7, u2_ne _ _ (by omega)]
theorem tX2_init {a : Nat} {x1 x2 x3 x4 : Int32} (hK : K a = 13) (h2 : z01 x2) (h4 : z01 x4) : MtAV l G yX2_init cX2_init 5 none (d + 1) 1 8 [.ref a, .int x1, .int x2, .int x3, .int x4] K N I R L (a + 1) (fun K' N' I' R' sz' => stmP K' N' R' a ∧ I' a 0 = x1 ∧ I' a 1 = x2 ∧ I' a 2 = x3 ∧ I' a 3 = x4 ∧ I' a 5 = I a 5 ∧ sz' = a + 2 ∧ FrB K N I R K' N' I' R' a) := by
  refine sX2_init (fun K1 e1 N4 e4 R3 e3 z5 e5 => ⟨by rw [e1, va_up_ne _ _ (by omega)]; exact hK, fun R7 e7 I8 e8 => ⟨h2, fun I10 e10 I11 e11 => ⟨h4, fun I13 e13 => ?_⟩⟩⟩)
  refine ⟨⟨by rw [e1, va_up_ne _ _ (by omega)]; exact hK, by rw [e7, u2_self], by rw [e1, va_up_self], by rw [e4, va_up_self]⟩, ?_, ?_, ?_, ?_, ?_, e5, fun b hb => ⟨?_, ?_, ?_, ?_⟩⟩
  · rw [e13, u2_nk _ _ (by decide), e11, u2_nk _ _ (by decide), e10, u2_nk _ _ (by decide), e8, u2_self]
  · rw [e13, u2_nk _ _ (by decide), e11, u2_nk _ _ (by decide), e10, u2_self]
  · rw [e13, u2_nk _ _ (by decide), e11, u2_self]
  · rw [e13, u2_self]
  · rw [e13, u2_nk _ _ (by decide), e11, u2_nk _ _ (by decide), e10, u2_nk _ _ (by decide), e8, u2_nk _ _ (by decide)]
  · rw [e1, va_up_ne _ _ (by omega)]
  · rw [e4, va_up_ne _ _ (by omega)]
  · rw [e13, u2_ne _ _ (by omega), e11, u2_ne _ _ (by omega), e10, u2_ne _ _ (by omega), e8, u2_ne _ _ (by omega)]
  · rw [e7, u2_ne _ _ (by omega), e3, va_up_ne _ _ (by omega)]
theorem wrdP.off {K N K' N' : TK} {R R' : TR} {a : Nat} (h : wrdP K N R a) (h1 : K' a = K a) (h2 : R' a = R a) (h3 : K' (a + 1) = K (a + 1)) (h4 : N' (a + 1) = N (a + 1)) : wrdP K' N' R' a := by
  unfold wrdP; rw [h1, h2, h3, h4]; exact h
theorem tX0_init {a : Nat} {x1 x2 : Int32} (hK : K a = 11) : MtAV l G yX0_init cX0_init 3 none (d + 2) 4 24 [.ref a, .int x1, .int x2] K N I R L (a + 1) (fun K' N' I' R' sz' => phrP K' N' R' a ∧ I' a 0 = x1 ∧ I' a 1 = x2 ∧ WrdD I' (a + 1) [] ∧ WrdD I' (a + 3) [] ∧ sz' = a + 5 ∧ FrB K N I R K' N' I' R' a) := by
  refine sX0_init (d := d + 1) (fun K1 e1 I2 e2 R3 e3 z5 e5 => ?_)
  subst e5
  refine ⟨_, tX4_init (by rw [e1, va_up_self]) (by rw [e2, va_up_self]), fun K11 N12 I9 R10 z13 h => ?_⟩
  obtain ⟨w1, w2, rfl, w4, w5⟩ := h
  have k11 : K11 a = 11 := by rw [(w4 a (by omega)).1, e1, va_up_ne _ _ (by omega)]; exact hK
  refine ⟨k11, fun R16 e16 K17 e17 I18 e18 R19 e19 z21 e21 => ?_⟩
  obtain rfl : z21 = a + 1 + 2 + 1 := by omega
  refine ⟨_, tX4_init (by rw [e17, va_up_self]) (by rw [e18, va_up_self]), fun K27 N28 I25 R26 z29 h => ?_⟩
  obtain ⟨v1, v2, rfl, v4, v5⟩ := h
  have k27 : K27 a = 11 := by rw [(v4 a (by omega)).1, e17, va_up_ne _ _ (by omega)]; exact k11
  refine ⟨k27, fun R32 e32 I33 e33 I34 e34 => ?_⟩
  have hI34 : ∀ b, b ≠ a → I34 b = I25 b := fun b hb => by rw [e34, u2_ne _ _ hb, e33, u2_ne _ _ hb]
  have hR32 : ∀ b, b ≠ a → R32 b = R26 b := fun b hb => by rw [e32, u2_ne _ _ hb]
  have f1 := v4 (a + 1) (by omega)
  have f2 := v4 (a + 2) (by omega)
  refine ⟨⟨k27, ?_, ?_, ?_, ?_⟩, ?_, ?_, ?_, ?_, by omega, fun b hb => ⟨?_, ?_, ?_, ?_⟩⟩
  · rw [e32, u2_nk _ _ (by decide), (v4 a (by omega)).2.2.2, e19, va_up_ne _ _ (by omega), e16, u2_self]
  · refine w1.off ?_ ?_ ?_ ?_
    · rw [f1.1, e17, va_up_ne _ _ (by omega)]
    · rw [hR32 _ (by omega), f1.2.2.2, e19, va_up_ne _ _ (by omega), e16, u2_ne _ _ (by omega)]
    · rw [f2.1, e17, va_up_ne _ _ (by omega)]
    · rw [f2.2.1]
  · rw [e32, u2_self]
  · exact v1.off rfl (hR32 _ (by omega)) rfl rfl
  · rw [e34, u2_nk _ _ (by decide), e33, u2_self]
  · rw [e34, u2_self]
  · refine w2.off ?_ ?_
    · rw [hI34 _ (by omega), f1.2.2.1, e18, va_up_ne _ _ (by omega)]
    · rw [hI34 _ (by omega), f2.2.2.1, e18, va_up_ne _ _ (by omega)]
  · exact v2.off (hI34 _ (by omega)) (hI34 _ (by omega))
  · rw [(v4 b (by omega)).1, e17, va_up_ne _ _ (by omega), (w4 b (by omega)).1, e1, va_up_ne _ _ (by omega)]
  · rw [(v4 b (by omega)).2.1, (w4 b (by omega)).2.1]
  · rw [hI34 _ (by omega), (v4 b (by omega)).2.2.1, e18, va_up_ne _ _ (by omega), (w4 b (by omega)).2.2.1, e2, va_up_ne _ _ (by omega)]
  · rw [hR32 _ (by omega), (v4 b (by omega)).2.2.2, e19, va_up_ne _ _ (by omega), e16, u2_ne _ _ (by omega), (w4 b (by omega)).2.2.2, e3, va_up_ne _ _ (by omega)]
theorem rowP.off {K N K' N' : TK} {R R' : TR} {r : Nat} (h : rowP K N R r) (hs : ∀ a, r ≤ a → a ≤ r + 6 → K' a = K a ∧ N' a = N a ∧ R' a = R a) : rowP K' N' R' r := by
  unfold rowP
  rw [(hs r (by omega) (by omega)).1, (hs r (by omega) (by omega)).2.2, (hs (r + 1) (by omega) (by omega)).1, (hs (r + 1) (by omega) (by omega)).2.1, (hs (r + 2) (by omega) (by omega)).1, (hs (r + 2) (by omega) (by omega)).2.1, (hs (r + 3) (by omega) (by omega)).1, (hs (r + 3) (by omega) (by omega)).2.1, (hs (r + 4) (by omega) (by omega)).1, (hs (r + 4) (by omega) (by omega)).2.1, (hs (r + 5) (by omega) (by omega)).1, (hs (r + 5) (by omega) (by omega)).2.1, (hs (r + 6) (by omega) (by omega)).1, (hs (r + 6) (by omega) (by omega)).2.1]
  exact h
theorem tX3_init {a : Nat} {x1 x2 : Int32} (hK : K a = 14) (hI : I a = fun _ => 0) : MtAV l G yX3_init cX3_init 3 none (d + 2) 8 2007 [.ref a, .int x1, .int x2] K N I R L (a + 1) (fun K' N' I' R' sz' => txtP K' N' R' a ∧ I' a 0 = x1 ∧ I' a 1 = x2 ∧ TxE I' a [] ∧ RowIs I' (a + 1) [] ∧ sz' = a + 9 ∧ FrB K N I R K' N' I' R' a) := by
  refine sX3_init (d := d + 1) (fun K1 e1 I2 e2 R3 e3 z5 e5 => ?_)
  subst e5
  refine ⟨_, tX1_init (by rw [e1, va_up_self]) (by rw [e2, va_up_self]), fun K11 N12 I9 R10 z13 h => ?_⟩
  obtain ⟨w1, w2, rfl, w4⟩ := h
  have k11 : K11 a = 14 := by rw [(w4 a (by omega)).1, e1, va_up_ne _ _ (by omega)]; exact hK
  refine ⟨k11, fun R16 e16 K17 e17 N20 e20 I18 e18 z21 e21 => ?_⟩
  have k17 : K17 a = 14 := by rw [e17, va_up_ne _ _ (by omega)]; exact k11
  refine ⟨k17, fun R23 e23 I24 e24 I25 e25 => ?_⟩
  have hI25 : ∀ b, b ≠ a → I25 b = I18 b := fun b hb => by rw [e25, u2_ne _ _ hb, e24, u2_ne _ _ hb]
  have hIa : I18 a = fun _ => 0 := by rw [e18, va_up_ne _ _ (by omega), (w4 a (by omega)).2.2.1, e2, va_up_ne _ _ (by omega), hI]
  refine ⟨⟨k17, ?_, ?_, ?_, ?_, ?_⟩, ?_, ?_, ⟨?_, by simp, ListAt.nil⟩, ?_, by omega, fun b hb => ⟨?_, ?_, ?_, ?_⟩⟩
  · rw [e23, u2_nk _ _ (by decide), e16, u2_self]
  · refine w1.off (fun b h1 h2 => ⟨?_, ?_, ?_⟩)
    · rw [e17, va_up_ne _ _ (by omega)]
    · rw [e20, va_up_ne _ _ (by omega)]
    · rw [e23, u2_ne _ _ (by omega), e16, u2_ne _ _ (by omega)]
  · rw [e23, u2_self]
  · rw [e17]; exact va_up_self _ _ _
  · rw [e20]; exact va_up_self _ _ _
  · rw [e25, u2_nk _ _ (by decide), e24, u2_self]
  · rw [e25, u2_self]
  · rw [e25, u2_nk _ _ (by decide), e24, u2_nk _ _ (by decide), hIa]; rfl
  · exact w2.off (fun b h1 h2 => by rw [hI25 _ (by omega), e18, va_up_ne _ _ (by omega)])
  · rw [e17, va_up_ne _ _ (by omega), (w4 b (by omega)).1, e1, va_up_ne _ _ (by omega)]
  · rw [e20, va_up_ne _ _ (by omega), (w4 b (by omega)).2.1]
  · rw [hI25 _ (by omega), e18, va_up_ne _ _ (by omega), (w4 b (by omega)).2.2.1, e2, va_up_ne _ _ (by omega)]
  · rw [e23, u2_ne _ _ (by omega), e16, u2_ne _ _ (by omega), (w4 b (by omega)).2.2.2, e3, va_up_ne _ _ (by omega)]
end MAKE
