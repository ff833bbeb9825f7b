/-! new CopyReplace() -/
section NEWC
variable {l : Launch} {G : Gx} {d : Nat} {K N : TK} {I : TI} {R : TR} {L : TL}
/-- the object as it is made -/
def New0 (K N : TK) (I : TI) (R : TR) (o : Nat) : Prop := ClsF K N R o ∧ I o = va_up (fun _ => 0) 3 1 ∧ R (o + 1) 0 = some (o + 20) ∧ txtP K N R (o + 20) ∧ TxD I (o + 20) 0 (-1) [] ∧ RowIs I (o + 12) []
theorem tX5_init {o : Nat} (hK : K o = 16) (hI : I o = fun _ => 0) : MtAV l G yX5_init cX5_init 1 none (d + 3) 28 5825 [.ref o] K N I R L (o + 1) (fun K' N' I' R' sz' => New0 K' N' I' R' o ∧ sz' = o + 29 ∧ FrB K N I R K' N' I' R' o) := by
  refine sX5_init (d := d + 2) (fun K1 e1 N4 e4 R3 e3 z5 e5 => ⟨by rw [e1, va_up_ne _ _ (by omega)]; exact hK, fun R7 e7 K8 e8 N11 e11 R10 e10 z12 e12 => ?_⟩)
  have k8 : K8 o = 16 := by rw [e8, va_up_ne _ _ (by omega), e1, va_up_ne _ _ (by omega)]; exact hK
  refine ⟨k8, fun R14 e14 K15 e15 N18 e18 R17 e17 z19 e19 => ?_⟩
  have k15 : K15 o = 16 := by rw [e15, va_up_ne _ _ (by omega)]; exact k8
  refine ⟨k15, fun R21 e21 K22 e22 N25 e25 R24 e24 z26 e26 => ?_⟩
  have k22 : K22 o = 16 := by rw [e22, va_up_ne _ _ (by omega)]; exact k15
  refine ⟨k22, fun R28 e28 K29 e29 I30 e30 R31 e31 z33 e33 => ?_⟩
  obtain rfl : z5 = o + 2 := by omega
  obtain rfl : z12 = o + 3 := by omega
  obtain rfl : z19 = o + 4 := by omega
  obtain rfl : z26 = o + 5 := by omega
  subst e33
  refine ⟨_, tX1_init (d := d + 1) (by rw [e29, va_up_self]) (by rw [e30, va_up_self]), fun K39 N40 I37 R38 z41 hx => ?_⟩
  obtain ⟨u1, u2r, u3, u4⟩ := hx
  obtain rfl : z41 = o + 12 := by omega
  have k39 : K39 o = 16 := by rw [(u4 o (by omega)).1, e29, va_up_ne _ _ (by omega)]; exact k22
  refine ⟨k39, fun R44 e44 K45 e45 I46 e46 R47 e47 z49 e49 => ?_⟩
  subst e49
  refine ⟨_, tX1_init (d := d + 1) (by rw [e45, va_up_self]) (by rw [e46, va_up_self]), fun K55 N56 I53 R54 z57 hx => ?_⟩
  obtain ⟨v1, v2, v3, v4⟩ := hx
  obtain rfl : z57 = o + 19 := by omega
  have k55 : K55 o = 16 := by rw [(v4 o (by omega)).1, e45, va_up_ne _ _ (by omega)]; exact k39
  refine ⟨k55, fun R60 e60 K61 e61 N64 e64 I62 e62 z65 e65 => ?_⟩
  obtain rfl : z65 = o + 20 := by omega
  have k61 : K61 o = 16 := by rw [e61, va_up_ne _ _ (by omega)]; exact k55
  refine ⟨k61, fun R67 e67 => ?_⟩
  -- the references of o, by place
  have r28 : ∀ k, R28 o k = if k = 6 then some (o + 4) else if k = 2 then some (o + 3) else if k = 1 then some (o + 2) else if k = 0 then some (o + 1) else R o k := fun k => by
    rw [e28, u2_eq, e24, va_up_ne _ _ (by omega), e21, u2_eq, e17, va_up_ne _ _ (by omega), e14, u2_eq, e10, va_up_ne _ _ (by omega), e7, u2_eq, e3, va_up_ne _ _ (by omega)]
    simp
  have r67 : ∀ k, R67 o k = if k = 9 then some (o + 19) else if k = 8 then some (o + 12) else if k = 7 then some (o + 5) else R28 o k := fun k => by
    rw [e67, u2_eq, e60, u2_eq, (v4 o (by omega)).2.2.2, e47, va_up_ne _ _ (by omega), e44, u2_eq, (u4 o (by omega)).2.2.2, e31, va_up_ne _ _ (by omega)]
    simp
  refine ⟨o + 1, by rw [r67, r28]; rfl, fun K70 e70 I71 e71 R72 e72 z74 e74 => ?_⟩
  subst e74
  refine ⟨_, tX3_init (by rw [e70, va_up_self]) (by rw [e71, va_up_self]), fun K80 N81 I78 R79 z82 hx => ?_⟩
  obtain ⟨w1, w2, w3, w4, w5, w6, w7⟩ := hx
  obtain rfl : z82 = o + 29 := by omega
  -- kinds and lengths below
  have kA : ∀ a, a < o + 20 → K80 a = K61 a ∧ N81 a = N64 a ∧ I78 a = I62 a ∧ R79 a = R67 a := fun a ha => by
    obtain ⟨y1, y2, y3, y4⟩ := w7 a ha
    exact ⟨by rw [y1, e70, va_up_ne _ _ (by omega)], y2, by rw [y3, e71, va_up_ne _ _ (by omega)], by rw [y4, e72, va_up_ne _ _ (by omega)]⟩
  have kB : ∀ a, a < o + 19 → K61 a = K55 a ∧ N64 a = N56 a ∧ I62 a = I53 a := fun a ha => ⟨by rw [e61, va_up_ne _ _ (by omega)], by rw [e64, va_up_ne _ _ (by omega)], by rw [e62, va_up_ne _ _ (by omega)]⟩
  have kC : ∀ a, a < o + 12 → K55 a = K39 a ∧ N56 a = N40 a ∧ I53 a = I37 a := fun a ha => by
    obtain ⟨y1, y2, y3, y4⟩ := v4 a ha
    exact ⟨by rw [y1, e45, va_up_ne _ _ (by omega)], y2, by rw [y3, e46, va_up_ne _ _ (by omega)]⟩
  have kD : ∀ a, a < o + 5 → K39 a = K22 a ∧ N40 a = N25 a ∧ I37 a = I a := fun a ha => by
    obtain ⟨y1, y2, y3, y4⟩ := u4 a ha
    exact ⟨by rw [y1, e29, va_up_ne _ _ (by omega)], y2, by rw [y3, e30, va_up_ne _ _ (by omega)]⟩
  have kall : ∀ a, a < o + 5 → K80 a = K22 a ∧ N81 a = N25 a ∧ I78 a = I a := fun a ha => ⟨((kA a (by omega)).1.trans (kB a (by omega)).1).trans ((kC a (by omega)).1.trans (kD a ha).1), ((kA a (by omega)).2.1.trans (kB a (by omega)).2.1).trans ((kC a (by omega)).2.1.trans (kD a ha).2.1), ((kA a (by omega)).2.2.1.trans (kB a (by omega)).2.2).trans ((kC a (by omega)).2.2.trans (kD a ha).2.2)⟩
  have rB : ∀ a, a ≠ o → a < o + 12 → R67 a = R38 a := fun a h0 ha => by
    rw [e67, u2_ne _ _ h0, e60, u2_ne _ _ h0, (v4 a ha).2.2.2, e47, va_up_ne _ _ (by omega), e44, u2_ne _ _ h0]
  have rC : ∀ a, a ≠ o → o + 12 ≤ a → R67 a = R54 a := fun a h0 ha => by
    rw [e67, u2_ne _ _ h0, e60, u2_ne _ _ h0]
  have k80 : K80 o = 16 := by rw [(kA o (by omega)).1]; exact k61
  refine ⟨by rw [(kall (o + 1) (by omega)).1, e22, va_up_ne _ _ (by omega), e15, va_up_ne _ _ (by omega), e8, va_up_ne _ _ (by omega), e1, va_up_self], by rw [(kall (o + 1) (by omega)).2.1, e25, va_up_ne _ _ (by omega), e18, va_up_ne _ _ (by omega), e11, va_up_ne _ _ (by omega), e4, va_up_self]; exact vp_in_nI (n := 0) (by decide) (by decide), w1.1, fun R87 e87 => ⟨k80, fun I89 e89 => ?_⟩⟩
  have hR87 : ∀ a, a ≠ o + 1 → R87 a = R79 a := fun a ha => by rw [e87, u2_ne _ _ ha]
  have hI89 : ∀ a, a ≠ o → I89 a = I78 a := fun a ha => by rw [e89, u2_ne _ _ ha]
  have ro : ∀ k, R87 o k = R67 o k := fun k => by rw [hR87 _ (by omega), (kA o (by omega)).2.2.2]
  refine ⟨⟨⟨k80, ⟨?_, ?_, ?_⟩, ⟨?_, ?_, ?_⟩, ⟨?_, ?_, ?_⟩, ⟨?_, ?_, ?_⟩, ⟨?_, ?_⟩, ⟨?_, ?_⟩, ?_, ?_, ?_⟩, ?_, ?_, ?_, ?_, ?_⟩, rfl, ?_⟩
  · rw [ro, r67, r28]; rfl
  · rw [(kall (o + 1) (by omega)).1, e22, va_up_ne _ _ (by omega), e15, va_up_ne _ _ (by omega), e8, va_up_ne _ _ (by omega), e1, va_up_self]
  · rw [(kall (o + 1) (by omega)).2.1, e25, va_up_ne _ _ (by omega), e18, va_up_ne _ _ (by omega), e11, va_up_ne _ _ (by omega), e4, va_up_self]
  · rw [ro, r67, r28]; rfl
  · rw [(kall (o + 2) (by omega)).1, e22, va_up_ne _ _ (by omega), e15, va_up_ne _ _ (by omega), e8, va_up_self]
  · rw [(kall (o + 2) (by omega)).2.1, e25, va_up_ne _ _ (by omega), e18, va_up_ne _ _ (by omega), e11, va_up_self]
  · rw [ro, r67, r28]; rfl
  · rw [(kall (o + 3) (by omega)).1, e22, va_up_ne _ _ (by omega), e15, va_up_self]
  · rw [(kall (o + 3) (by omega)).2.1, e25, va_up_ne _ _ (by omega), e18, va_up_self]
  · rw [ro, r67, r28]; rfl
  · rw [(kall (o + 4) (by omega)).1, e22, va_up_self]
  · rw [(kall (o + 4) (by omega)).2.1, e25, va_up_self]
  · rw [ro, r67]; rfl
  · refine u1.off (fun a q1 q2 => ⟨?_, ?_, ?_⟩)
    · rw [(kA a (by omega)).1, (kB a (by omega)).1, (kC a (by omega)).1]
    · rw [(kA a (by omega)).2.1, (kB a (by omega)).2.1, (kC a (by omega)).2.1]
    · rw [hR87 _ (by omega), (kA a (by omega)).2.2.2, rB a (by omega) (by omega)]
  · rw [ro, r67]; rfl
  · refine v1.off (fun a q1 q2 => ⟨?_, ?_, ?_⟩)
    · rw [(kA a (by omega)).1, (kB a (by omega)).1]
    · rw [(kA a (by omega)).2.1, (kB a (by omega)).2.1]
    · rw [hR87 _ (by omega), (kA a (by omega)).2.2.2, rC a (by omega) (by omega)]
  · rw [ro, r67]; rfl
  · rw [(kA (o + 19) (by omega)).1, e61, va_up_self]
  · rw [(kA (o + 19) (by omega)).2.1, e64, va_up_self]
  · rw [e89, u2_at, (kall o (by omega)).2.2, hI]
  · rw [e87]; exact u2_self _ _ _ _
  · exact w1.mv (fun k hk => ⟨rfl, rfl, hR87 _ (by omega)⟩)
  · refine ⟨?_, ?_, ?_⟩
    · rw [hI89 _ (by omega), w2]; rfl
    · rw [hI89 _ (by omega)]; exact w3
    · unfold TxE; rw [hI89 _ (by omega), hI89 _ (by omega)]; exact w4
  · exact v2.off (fun a q1 q2 => by rw [hI89 _ (by omega), (kA a (by omega)).2.2.1, (kB a (by omega)).2.2])
  · intro a ha
    have y := kall a (by omega)
    refine ⟨?_, ?_, ?_, ?_⟩
    · rw [y.1, e22, va_up_ne _ _ (by omega), e15, va_up_ne _ _ (by omega), e8, va_up_ne _ _ (by omega), e1, va_up_ne _ _ (by omega)]
    · rw [y.2.1, e25, va_up_ne _ _ (by omega), e18, va_up_ne _ _ (by omega), e11, va_up_ne _ _ (by omega), e4, va_up_ne _ _ (by omega)]
    · rw [hI89 _ (by omega), y.2.2]
    · rw [hR87 _ (by omega), (kA a (by omega)).2.2.2, rB a (by omega) (by omega), (u4 a (by omega)).2.2.2, e31, va_up_ne _ _ (by omega), e28, u2_ne _ _ (by omega), e24, va_up_ne _ _ (by omega), e21, u2_ne _ _ (by omega), e17, va_up_ne _ _ (by omega), e14, u2_ne _ _ (by omega), e10, va_up_ne _ _ (by omega), e7, u2_ne _ _ (by omega), e3, va_up_ne _ _ (by omega)]
end NEWC
