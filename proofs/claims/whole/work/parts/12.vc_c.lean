set_option maxRecDepth 100000 in
set_option maxHeartbeats 4000000 in
theorem vX5_textNamed_0 {p : Program} {l : Launch} {e : Env} {s : State} {m : MethodId} {args : Array Value} {below : List Frame} {meth : Method} {c : Code} {G : Gx} {d : Nat} {K N : TK} {I : TI} {R : TR} {L : TL} {sz : Nat} {φ : Option Nat → TI → Prop} (C : Cx p s m args meth c (AM K sz) G RX5 cX5_textNamed 4) (hr : meth.sig.returnType = (some (.object "CopyReplace$Text"))) {a0 : Nat} {x1 : Int32}
    (h : (WR p l e s m args below meth c G (d + 1) φ K N R L sz 4 2 [(0, .ref a0), (1, .int x1), (2, .int 1)] I)) :
    WR p l e s m args below meth c G (d + 1) φ K N R L sz 4 0 [(0, .ref a0), (1, .int x1)] I := by
  refine wm_iconst C 1 dX5_textNamed_0 ?_ (by decide)
  refine wm_istore_n C (by decide) dX5_textNamed_1 ?_
  exact h
set_option maxRecDepth 100000 in
set_option maxHeartbeats 4000000 in
theorem vX5_textNamed_2 {p : Program} {l : Launch} {e : Env} {s : State} {m : MethodId} {args : Array Value} {below : List Frame} {meth : Method} {c : Code} {G : Gx} {d : Nat} {K N : TK} {I : TI} {R : TR} {L : TL} {sz : Nat} {φ : Option Nat → TI → Prop} (C : Cx p s m args meth c (AM K sz) G RX5 cX5_textNamed 4) (hr : meth.sig.returnType = (some (.object "CopyReplace$Text"))) {a0 : Nat} {x1 : Int32} {x2 : Int32}
    (h : K a0 = 16 ∧ (((I a0 3) ≤ x2 → φ none I) ∧ (¬ (I a0 3) ≤ x2 → ∃ φ2 : Option Nat → TI → Prop, MtR l G yX5_textNumbered cX5_textNumbered 2 (some (.object "CopyReplace$Text")) d [.ref a0, .int x2] K N I R L sz φ2 ∧ ∀ (r4 : Option Nat) (I5 : TI), φ2 r4 I5 → ((r4 = none → (WR p l e s m args below meth c G (d + 1) φ K N R L sz 4 2 [(0, .ref a0), (1, .int x1), (2, .int (x2 + 1))] I5)) ∧ (∀ b11 : Nat, r4 = some b11 → K b11 = 14 ∧ ((¬ (I5 b11 1) = x1 → (WR p l e s m args below meth c G (d + 1) φ K N R L sz 4 2 [(0, .ref a0), (1, .int x1), (2, .int (x2 + 1))] I5)) ∧ ((I5 b11 1) = x1 → φ (some b11) I5))))))) :
    WR p l e s m args below meth c G (d + 1) φ K N R L sz 4 2 [(0, .ref a0), (1, .int x1), (2, .int x2)] I := by
  refine wm_iload_n C rfl dX5_textNamed_2 ?_
  refine wm_aload_n C rfl dX5_textNamed_3 ?_
  obtain ⟨hk1, h⟩ := h
  refine wm_getI C fqX5_47 hk1 dX5_textNamed_4 ?_
  refine wm_icmp_ge C 36 dX5_textNamed_7 (by decide) (fun q => ?_) (fun q => ?_)
  · replace h := h.1 q
    refine wm_null C dX5_textNamed_36 ?_
    exact wm_aret (r := none) C hr (Nat.le_of_ble_eq_true rfl) (Nat.le_of_ble_eq_true rfl) ⟨rfl, rfl, rfl, rfl, rfl, _, rfl, h⟩ dX5_textNamed_37
  · replace h := h.2 q
    refine wm_aload_n C rfl dX5_textNamed_10 ?_
    refine wm_iload_n C rfl dX5_textNamed_11 ?_
    obtain ⟨φ2, hM3, h⟩ := h
    refine wm_cVR1 C vqX5_55 hM3 hk1 ⟨Nat.le_refl _, Nat.le_refl _⟩ (Nat.le_of_ble_eq_true rfl) ⟨Nat.le_of_ble_eq_true rfl, Nat.le_of_ble_eq_true rfl⟩ dX5_textNamed_12 (fun r4 I5 hφ10 => ?_)
    replace h := h r4 I5 hφ10
    refine wm_astoreQ_n C (by decide) dX5_textNamed_15 ?_
    refine wm_aloadQ_n C rfl dX5_textNamed_16 ?_
    rcases r4 with _ | b11
    · replace h := h.1 rfl
      refine wm_ifnullN C 30 dX5_textNamed_17 ?_ (by decide)
      refine wm_iinc C (x2 + 1) rfl dX5_textNamed_30 rfl (by decide) ?_
      refine wm_goto C 2 dX5_textNamed_33 ?_ (by decide)
      exact wm_pick [0, 1, 2] rfl h
    · replace h := h.2 b11 rfl
      refine wm_ifnull C dX5_textNamed_17 ?_
      refine wm_aload_n C rfl dX5_textNamed_20 ?_
      obtain ⟨hk12, h⟩ := h
      refine wm_getI C fqX5_169 hk12 dX5_textNamed_21 ?_
      refine wm_iload_n C rfl dX5_textNamed_24 ?_
      refine wm_icmp_ne C 30 dX5_textNamed_25 (by decide) (fun q => ?_) (fun q => ?_)
      · replace h := h.1 q
        refine wm_iinc C (x2 + 1) rfl dX5_textNamed_30 rfl (by decide) ?_
        refine wm_goto C 2 dX5_textNamed_33 ?_ (by decide)
        exact wm_pick [0, 1, 2] rfl h
      · replace h := h.2 q
        refine wm_aload_n C rfl dX5_textNamed_28 ?_
        exact wm_aret (r := (some b11)) C hr (Nat.le_of_ble_eq_true rfl) (Nat.le_of_ble_eq_true rfl) ⟨rfl, rfl, rfl, rfl, rfl, _, rfl, h⟩ dX5_textNamed_29
set_option maxRecDepth 100000 in
set_option maxHeartbeats 4000000 in
theorem sX5_textNamed {l : Launch} {G : Gx} {d : Nat} {K N : TK} {I : TI} {R : TR} {L : TL} {sz : Nat} {φ : Option Nat → TI → Prop} {a0 : Nat} {x1 : Int32}
    (h : ∀ (p : Program) (e : Env) (s : State) (m : MethodId) (args : Array Value) (below : List Frame) (meth : Method) (c : Code), Cx p s m args meth c (AM K sz) G RX5 cX5_textNamed 4 → meth.sig.returnType = (some (.object "CopyReplace$Text")) → (WR p l e s m args below meth c G (d + 1) φ K N R L sz 4 2 [(0, .ref a0), (1, .int x1), (2, .int 1)] I)) :
    MtR l G yX5_textNamed cX5_textNamed 4 (some (.object "CopyReplace$Text")) (d + 1) [.ref a0, .int x1] K N I R L sz φ :=
  MetM.of (own := RX5) (by decide) rfl (catR (catI cat0)) (Nat.le_of_ble_eq_true rfl) (fun p e s m args below meth c C hr hnm => vX5_textNamed_0 C hr (h p e s m args below meth c C hr))
set_option maxRecDepth 100000 in
set_option maxHeartbeats 4000000 in
theorem vX5_makeRow_0 {p : Program} {l : Launch} {e : Env} {s : State} {m : MethodId} {args : Array Value} {below : List Frame} {meth : Method} {c : Code} {G : Gx} {d : Nat} {K N : TK} {I : TI} {R0 R : TR} {L : TL} {sz : Nat} {φ : Int32 → TI → TR → Prop} (C : Cx p s m args meth c (AM K sz) G RX5 cX5_makeRow 8) (hr : meth.sig.returnType = (some .int)) {a0 : Nat} {a1 : Nat} {x2 : Int32} {x3 : Int32}
    (h : ((x2 < 0 → φ (-3) I R) ∧ (¬ x2 < 0 → K a0 = 16 ∧ ∃ b2, R a0 6 = some b2 ∧ K b2 = 25 ∧ ((x2 < (nI (N b2)) → vp_in x2 (N b2) ∧ K a1 = 14 ∧ ∀ R7 : TR, R7 = u2 R b2 (Int32.toNatClampNeg x2) (some a1) → ∃ b8, R7 a1 2 = some b8 ∧ K b8 = 12 ∧ ∃ φ11 : TI → Prop, MtV l G yX1_clear cX1_clear 1 none d [.ref b8] K N I R7 L sz φ11 ∧ ∀ (I14 : TI), φ11 I14 → (WJ p l e s m args below meth c G (d + 1) φ K N R0 L sz 8 33 [(0, .ref a0), (1, .ref a1), (2, .int x2), (3, .int x3), (4, .int 0)] I14 R7)) ∧ (¬ x2 < (nI (N b2)) → φ (-3) I R))))) :
    WJ p l e s m args below meth c G (d + 1) φ K N R0 L sz 8 0 [(0, .ref a0), (1, .ref a1), (2, .int x2), (3, .int x3)] I R := by
  refine wm_iload_n C rfl dX5_makeRow_0 ?_
  refine wm_if_lt C 13 dX5_makeRow_1 (by decide) (fun q => ?_) (fun q => ?_)
  · replace h := h.1 q
    refine wm_bipush C (-3) dX5_makeRow_13 ?_ (by decide)
    exact wm_iret C hr rfl (Nat.le_of_ble_eq_true rfl) (Nat.le_of_ble_eq_true rfl) ⟨rfl, rfl, rfl, rfl, _, rfl, h⟩ dX5_makeRow_15
  · replace h := h.2 q
    refine wm_iload_n C rfl dX5_makeRow_4 ?_
    refine wm_aload_n C rfl dX5_makeRow_5 ?_
    obtain ⟨hk1, h⟩ := h
    obtain ⟨b2, hr3, h⟩ := h
    refine wm_getR C fqX5_27 hk1 hr3 dX5_makeRow_6 ?_
    obtain ⟨hk4, h⟩ := h
    refine wm_alen C (Or.inr (Or.inr (Or.inr (Or.inr hk4)))) dX5_makeRow_9 ?_
    refine wm_icmp_lt C 16 dX5_makeRow_10 (by decide) (fun q => ?_) (fun q => ?_)
    · replace h := h.1 q
      refine wm_aload_n C rfl dX5_makeRow_16 ?_
      refine wm_getR C fqX5_27 hk1 hr3 dX5_makeRow_17 ?_
      refine wm_iload_n C rfl dX5_makeRow_20 ?_
      refine wm_aload_n C rfl dX5_makeRow_21 ?_
      obtain ⟨hi5, h⟩ := h
      obtain ⟨hk6, h⟩ := h
      refine wm_aast (t := 5) C (by decide) (by decide) hk4 hi5 hk6 dX5_makeRow_22 ?_
      refine nmR (fun R7 hR7 => ?_)
      replace h := h R7 hR7
      refine wm_aload_n C rfl dX5_makeRow_23 ?_
      obtain ⟨b8, hr9, h⟩ := h
      refine wm_getR C fqX5_131 hk6 hr9 dX5_makeRow_24 ?_
      obtain ⟨hk10, h⟩ := h
      obtain ⟨φ11, hM12, h⟩ := h
      refine wm_cVV0 C vqX5_114 hM12 hk10 ⟨Nat.le_refl _, Nat.le_refl _⟩ (Nat.le_of_ble_eq_true rfl) ⟨Nat.le_of_ble_eq_true rfl, Nat.le_of_ble_eq_true rfl⟩ dX5_makeRow_27 (fun I14 hφ19 => ?_)
      replace h := h I14 hφ19
      refine wm_iconst C 0 dX5_makeRow_30 ?_ (by decide)
      refine wm_istore C (by decide) dX5_makeRow_31 ?_
      exact h
    · replace h := h.2 q
      refine wm_bipush C (-3) dX5_makeRow_13 ?_ (by decide)
      exact wm_iret C hr rfl (Nat.le_of_ble_eq_true rfl) (Nat.le_of_ble_eq_true rfl) ⟨rfl, rfl, rfl, rfl, _, rfl, h⟩ dX5_makeRow_15
set_option maxRecDepth 100000 in
set_option maxHeartbeats 4000000 in
theorem vX5_makeRow_33 {p : Program} {l : Launch} {e : Env} {s : State} {m : MethodId} {args : Array Value} {below : List Frame} {meth : Method} {c : Code} {G : Gx} {d : Nat} {K N : TK} {I : TI} {R0 R : TR} {L : TL} {sz : Nat} {φ : Int32 → TI → TR → Prop} (C : Cx p s m args meth c (AM K sz) G RX5 cX5_makeRow 8) (hr : meth.sig.returnType = (some .int)) {a0 : Nat} {a1 : Nat} {x2 : Int32} {x3 : Int32} {x4 : Int32}
    (h : K a1 = 14 ∧ (((I a1 4) ≤ x4 → φ 0 I R) ∧ (¬ (I a1 4) ≤ x4 → ∃ φ2 : Int32 → TI → Prop, MtI l G yX3_entry cX3_entry 2 (some .int) d [.ref a1, .int x4] K N I R L sz φ2 ∧ ∀ (r4 : Int32) (I5 : TI), φ2 r4 I5 → K a0 = 16 ∧ ∃ φ12 : Option Nat → TI → Prop, MtR l G yX5_statementOf cX5_statementOf 2 (some (.object "CopyReplace$Statement")) d [.ref a0, .int r4] K N I5 R L sz φ12 ∧ ∀ (r14 : Option Nat) (I15 : TI), φ12 r14 I15 → ((r14 = none → ∃ b22, R a1 2 = some b22 ∧ K b22 = 12 ∧ ∃ φ25 : Int32 → TI → Prop, MtI l G yX1_addEntry cX1_addEntry 6 (some .boolean) d [.ref b22, .int r4, .int (I15 a1 0), .int x4, .int x2, .int x3] K N I15 R L sz φ25 ∧ ∀ (r27 : Int32) (I28 : TI), φ25 r27 I28 → ((r27 = 0 → φ (-3) I28 R) ∧ (¬ r27 = 0 → (WJ p l e s m args below meth c G (d + 1) φ K N R0 L sz 8 33 [(0, .ref a0), (1, .ref a1), (2, .int x2), (3, .int x3), (4, .int (x4 + 1))] I28 R)))) ∧ (∀ b21 : Nat, r14 = some b21 → K b21 = 13 ∧ (((I15 b21 1) = 0 → ∃ b35, R a1 2 = some b35 ∧ K b35 = 12 ∧ ∃ φ38 : Int32 → TI → Prop, MtI l G yX1_addEntry cX1_addEntry 6 (some .boolean) d [.ref b35, .int r4, .int (I15 a1 0), .int x4, .int x2, .int x3] K N I15 R L sz φ38 ∧ ∀ (r40 : Int32) (I41 : TI), φ38 r40 I41 → ((r40 = 0 → φ (-3) I41 R) ∧ (¬ r40 = 0 → (WJ p l e s m args below meth c G (d + 1) φ K N R0 L sz 8 33 [(0, .ref a0), (1, .ref a1), (2, .int x2), (3, .int x3), (4, .int (x4 + 1))] I41 R)))) ∧ (¬ (I15 b21 1) = 0 → ∃ b47, R a1 2 = some b47 ∧ ∃ φ49 : Int32 → TI → TR → Prop, MtJ l G yX5_addCopy cX5_addCopy 7 (some .int) d [.ref a0, .ref b47, .ref b21, .int x2, .int x3] K N I15 R L sz φ49 ∧ ∀ (r51 : Int32) (I52 : TI) (R53 : TR), φ49 r51 I52 R53 → ((r51 = 0 → (WJ p l e s m args below meth c G (d + 1) φ K N R0 L sz 8 33 [(0, .ref a0), (1, .ref a1), (2, .int x2), (3, .int x3), (4, .int (x4 + 1))] I52 R53)) ∧ (¬ r51 = 0 → φ r51 I52 R53))))))))) :
    WJ p l e s m args below meth c G (d + 1) φ K N R0 L sz 8 33 [(0, .ref a0), (1, .ref a1), (2, .int x2), (3, .int x3), (4, .int x4)] I R := by
  refine wm_iload C rfl dX5_makeRow_33 ?_
  refine wm_aload_n C rfl dX5_makeRow_35 ?_
  obtain ⟨hk1, h⟩ := h
  refine wm_getI C fqX5_65 hk1 dX5_makeRow_36 ?_
  refine wm_icmp_ge C 130 dX5_makeRow_39 (by decide) (fun q => ?_) (fun q => ?_)
  · replace h := h.1 q
    refine wm_iconst C 0 dX5_makeRow_130 ?_ (by decide)
    exact wm_iret C hr rfl (Nat.le_of_ble_eq_true rfl) (Nat.le_of_ble_eq_true rfl) ⟨rfl, rfl, rfl, rfl, _, rfl, h⟩ dX5_makeRow_131
  · replace h := h.2 q
    refine wm_aload_n C rfl dX5_makeRow_42 ?_
    refine wm_iload C rfl dX5_makeRow_43 ?_
    obtain ⟨φ2, hM3, h⟩ := h
    refine wm_cVI1 C vqX5_172 hM3 hk1 ⟨Nat.le_refl _, Nat.le_refl _⟩ (Nat.le_of_ble_eq_true rfl) ⟨Nat.le_of_ble_eq_true rfl, Nat.le_of_ble_eq_true rfl⟩ dX5_makeRow_45 (fun r4 I5 hφ10 => ?_)
    replace h := h r4 I5 hφ10
    refine wm_istore C (by decide) dX5_makeRow_48 ?_
    refine wm_aload_n C rfl dX5_makeRow_50 ?_
    refine wm_iload C rfl dX5_makeRow_51 ?_
    obtain ⟨hk11, h⟩ := h
    obtain ⟨φ12, hM13, h⟩ := h
    refine wm_cVR1 C vqX5_175 hM13 hk11 ⟨Nat.le_refl _, Nat.le_refl _⟩ (Nat.le_of_ble_eq_true rfl) ⟨Nat.le_of_ble_eq_true rfl, Nat.le_of_ble_eq_true rfl⟩ dX5_makeRow_53 (fun r14 I15 hφ20 => ?_)
    replace h := h r14 I15 hφ20
    refine wm_astoreQ C (by decide) dX5_makeRow_56 ?_
    refine wm_aloadQ C rfl dX5_makeRow_58 ?_
    rcases r14 with _ | b21
    · replace h := h.1 rfl
      refine wm_ifnullN C 88 dX5_makeRow_60 ?_ (by decide)
      refine wm_aload_n C rfl dX5_makeRow_88 ?_
      obtain ⟨b22, hr23, h⟩ := h
      refine wm_getR C fqX5_131 hk1 hr23 dX5_makeRow_89 ?_
      refine wm_iload C rfl dX5_makeRow_92 ?_
      refine wm_aload_n C rfl dX5_makeRow_94 ?_
      refine wm_getI C fqX5_186 hk1 dX5_makeRow_95 ?_
      refine wm_iload C rfl dX5_makeRow_98 ?_
      refine wm_iload_n C rfl dX5_makeRow_100 ?_
      refine wm_iload_n C rfl dX5_makeRow_101 ?_
      obtain ⟨hk24, h⟩ := h
      obtain ⟨φ25, hM26, h⟩ := h
      refine wm_cVI5 C vqX5_187 hM26 hk24 ⟨Nat.le_refl _, Nat.le_refl _⟩ (Nat.le_of_ble_eq_true rfl) ⟨Nat.le_of_ble_eq_true rfl, Nat.le_of_ble_eq_true rfl⟩ dX5_makeRow_102 (fun r27 I28 hφ33 => ?_)
      replace h := h r27 I28 hφ33
      refine wm_if_eq C 112 dX5_makeRow_105 (by decide) (fun q => ?_) (fun q => ?_)
      · replace h := h.1 q
        refine wm_bipush C (-3) dX5_makeRow_112 ?_ (by decide)
        refine wm_istore C (by decide) dX5_makeRow_114 ?_
        refine wm_iload C rfl dX5_makeRow_116 ?_
        refine wm_if_eq C 124 dX5_makeRow_118 (by decide) (fun q => absurd q (by decide)) (fun _ => ?_)
        refine wm_iload C rfl dX5_makeRow_121 ?_
        exact wm_iret C hr rfl (Nat.le_of_ble_eq_true rfl) (Nat.le_of_ble_eq_true rfl) ⟨rfl, rfl, rfl, rfl, _, rfl, h⟩ dX5_makeRow_123
      · replace h := h.2 q
        refine wm_iconst C 0 dX5_makeRow_108 ?_ (by decide)
        refine wm_goto C 114 dX5_makeRow_109 ?_ (by decide)
        refine wm_istore C (by decide) dX5_makeRow_114 ?_
        refine wm_iload C rfl dX5_makeRow_116 ?_
        refine wm_if_eq C 124 dX5_makeRow_118 (by decide) (fun _ => ?_) (fun q => absurd q (by decide))
        refine wm_iinc C (x4 + 1) rfl dX5_makeRow_124 rfl (by decide) ?_
        refine wm_goto C 33 dX5_makeRow_127 ?_ (by decide)
        exact wm_pick [0, 1, 2, 3, 4] rfl h
    · replace h := h.2 b21 rfl
      refine wm_ifnull C dX5_makeRow_60 ?_
      refine wm_aload C rfl dX5_makeRow_63 ?_
      obtain ⟨hk34, h⟩ := h
      refine wm_getI C fqX5_178 hk34 dX5_makeRow_65 ?_
      refine wm_if_eq C 88 dX5_makeRow_68 (by decide) (fun q => ?_) (fun q => ?_)
      · replace h := h.1 q
        refine wm_aload_n C rfl dX5_makeRow_88 ?_
        obtain ⟨b35, hr36, h⟩ := h
        refine wm_getR C fqX5_131 hk1 hr36 dX5_makeRow_89 ?_
        refine wm_iload C rfl dX5_makeRow_92 ?_
        refine wm_aload_n C rfl dX5_makeRow_94 ?_
        refine wm_getI C fqX5_186 hk1 dX5_makeRow_95 ?_
        refine wm_iload C rfl dX5_makeRow_98 ?_
        refine wm_iload_n C rfl dX5_makeRow_100 ?_
        refine wm_iload_n C rfl dX5_makeRow_101 ?_
        obtain ⟨hk37, h⟩ := h
        obtain ⟨φ38, hM39, h⟩ := h
        refine wm_cVI5 C vqX5_187 hM39 hk37 ⟨Nat.le_refl _, Nat.le_refl _⟩ (Nat.le_of_ble_eq_true rfl) ⟨Nat.le_of_ble_eq_true rfl, Nat.le_of_ble_eq_true rfl⟩ dX5_makeRow_102 (fun r40 I41 hφ46 => ?_)
        replace h := h r40 I41 hφ46
        refine wm_if_eq C 112 dX5_makeRow_105 (by decide) (fun q => ?_) (fun q => ?_)
        · replace h := h.1 q
          refine wm_bipush C (-3) dX5_makeRow_112 ?_ (by decide)
          refine wm_istore C (by decide) dX5_makeRow_114 ?_
          refine wm_iload C rfl dX5_makeRow_116 ?_
          refine wm_if_eq C 124 dX5_makeRow_118 (by decide) (fun q => absurd q (by decide)) (fun _ => ?_)
          refine wm_iload C rfl dX5_makeRow_121 ?_
          exact wm_iret C hr rfl (Nat.le_of_ble_eq_true rfl) (Nat.le_of_ble_eq_true rfl) ⟨rfl, rfl, rfl, rfl, _, rfl, h⟩ dX5_makeRow_123
        · replace h := h.2 q
          refine wm_iconst C 0 dX5_makeRow_108 ?_ (by decide)
          refine wm_goto C 114 dX5_makeRow_109 ?_ (by decide)
          refine wm_istore C (by decide) dX5_makeRow_114 ?_
          refine wm_iload C rfl dX5_makeRow_116 ?_
          refine wm_if_eq C 124 dX5_makeRow_118 (by decide) (fun _ => ?_) (fun q => absurd q (by decide))
          refine wm_iinc C (x4 + 1) rfl dX5_makeRow_124 rfl (by decide) ?_
          refine wm_goto C 33 dX5_makeRow_127 ?_ (by decide)
          exact wm_pick [0, 1, 2, 3, 4] rfl h
      · replace h := h.2 q
        refine wm_aload_n C rfl dX5_makeRow_71 ?_
        refine wm_aload_n C rfl dX5_makeRow_72 ?_
        obtain ⟨b47, hr48, h⟩ := h
        refine wm_getR C fqX5_131 hk1 hr48 dX5_makeRow_73 ?_
        refine wm_aload C rfl dX5_makeRow_76 ?_
        refine wm_iload_n C rfl dX5_makeRow_78 ?_
        refine wm_iload_n C rfl dX5_makeRow_79 ?_
        obtain ⟨φ49, hM50, h⟩ := h
        refine wm_cVJ4 C vqX5_182 hM50 hk11 ⟨Nat.le_refl _, Nat.le_refl _⟩ (Nat.le_of_ble_eq_true rfl) ⟨Nat.le_of_ble_eq_true rfl, Nat.le_of_ble_eq_true rfl⟩ dX5_makeRow_80 (fun r51 I52 R53 hφ57 => ?_)
        replace h := h r51 I52 R53 hφ57
        refine wm_istore C (by decide) dX5_makeRow_83 ?_
        refine wm_goto C 116 dX5_makeRow_85 ?_ (by decide)
        refine wm_iload C rfl dX5_makeRow_116 ?_
        refine wm_if_eq C 124 dX5_makeRow_118 (by decide) (fun q => ?_) (fun q => ?_)
        · replace h := h.1 q
          refine wm_iinc C (x4 + 1) rfl dX5_makeRow_124 rfl (by decide) ?_
          refine wm_goto C 33 dX5_makeRow_127 ?_ (by decide)
          exact wm_pick [0, 1, 2, 3, 4] rfl h
        · replace h := h.2 q
          refine wm_iload C rfl dX5_makeRow_121 ?_
          exact wm_iret C hr rfl (Nat.le_of_ble_eq_true rfl) (Nat.le_of_ble_eq_true rfl) ⟨rfl, rfl, rfl, rfl, _, rfl, h⟩ dX5_makeRow_123
set_option maxRecDepth 100000 in
set_option maxHeartbeats 4000000 in
theorem sX5_makeRow {l : Launch} {G : Gx} {d : Nat} {K N : TK} {I : TI} {R : TR} {L : TL} {sz : Nat} {φ : Int32 → TI → TR → Prop} {a0 : Nat} {a1 : Nat} {x2 : Int32} {x3 : Int32}
    (h : ∀ (p : Program) (e : Env) (s : State) (m : MethodId) (args : Array Value) (below : List Frame) (meth : Method) (c : Code), Cx p s m args meth c (AM K sz) G RX5 cX5_makeRow 8 → meth.sig.returnType = (some .int) → ((x2 < 0 → φ (-3) I R) ∧ (¬ x2 < 0 → K a0 = 16 ∧ ∃ b2, R a0 6 = some b2 ∧ K b2 = 25 ∧ ((x2 < (nI (N b2)) → vp_in x2 (N b2) ∧ K a1 = 14 ∧ ∀ R7 : TR, R7 = u2 R b2 (Int32.toNatClampNeg x2) (some a1) → ∃ b8, R7 a1 2 = some b8 ∧ K b8 = 12 ∧ ∃ φ11 : TI → Prop, MtV l G yX1_clear cX1_clear 1 none d [.ref b8] K N I R7 L sz φ11 ∧ ∀ (I14 : TI), φ11 I14 → (WJ p l e s m args below meth c G (d + 1) φ K N R L sz 8 33 [(0, .ref a0), (1, .ref a1), (2, .int x2), (3, .int x3), (4, .int 0)] I14 R7)) ∧ (¬ x2 < (nI (N b2)) → φ (-3) I R))))) :
    MtJ l G yX5_makeRow cX5_makeRow 8 (some .int) (d + 1) [.ref a0, .ref a1, .int x2, .int x3] K N I R L sz φ :=
  MetM.of (own := RX5) (by decide) rfl (catR (catR (catI (catI cat0)))) (Nat.le_of_ble_eq_true rfl) (fun p e s m args below meth c C hr hnm => vX5_makeRow_0 C hr (h p e s m args below meth c C hr))
set_option maxRecDepth 100000 in
set_option maxHeartbeats 4000000 in
theorem vX5_addCopy_0 {p : Program} {l : Launch} {e : Env} {s : State} {m : MethodId} {args : Array Value} {below : List Frame} {meth : Method} {c : Code} {G : Gx} {d : Nat} {K N : TK} {I : TI} {R0 R : TR} {L : TL} {sz : Nat} {φ : Int32 → TI → TR → Prop} (C : Cx p s m args meth c (AM K sz) G RX5 cX5_addCopy 7) (hr : meth.sig.returnType = (some .int)) {a0 : Nat} {a1 : Nat} {a2 : Nat} {x3 : Int32} {x4 : Int32}
    (h : K a0 = 16 ∧ (((I a0 11) < 100 → ∀ I2 : TI, I2 = u2 I a0 11 ((I a0 11) + 1) → K a2 = 13 ∧ ∃ φ4 : Option Nat → TI → Prop, MtR l G yX5_textNamed cX5_textNamed 4 (some (.object "CopyReplace$Text")) d [.ref a0, .int (I2 a2 2)] K N I2 R L sz φ4 ∧ ∀ (r6 : Option Nat) (I7 : TI), φ4 r6 I7 → ((r6 = none → φ ((-10) - (I7 a2 0)) I7 R) ∧ (∀ b13 : Nat, r6 = some b13 → ∃ φ14 : Int32 → TI → Prop, MtI l G yX5_closesRing cX5_closesRing 5 (some .boolean) d [.ref a0, .ref b13, .int x3] K N I7 R L sz φ14 ∧ ∀ (r16 : Int32) (I17 : TI), φ14 r16 I17 → ((r16 = 0 → ((¬ x4 = 0 → ∃ φ23 : Int32 → TI → TR → Prop, MtJ l G yX5_makeRow cX5_makeRow 8 (some .int) d [.ref a0, .ref b13, .int (x3 + 1), .int 1] K N I17 R L sz φ23 ∧ ∀ (r25 : Int32) (I26 : TI) (R27 : TR), φ23 r25 I26 R27 → ((r25 = 0 → ∃ b32, R27 a0 7 = some b32 ∧ K b32 = 12 ∧ ∃ φ35 : TI → Prop, MtV l G yX1_clear cX1_clear 1 none d [.ref b32] K N I26 R27 L sz φ35 ∧ ∀ (I38 : TI), φ35 I38 → K b13 = 14 ∧ ∃ b45, R27 b13 2 = some b45 ∧ K b45 = 12 ∧ ∃ φ48 : Int32 → TI → Prop, MtI l G yX5_matchPart cX5_matchPart 8 (some .int) d [.ref a0, .ref b45, .int 0, .int (I38 b45 6), .ref a2, .ref b32] K N I38 R27 L sz φ48 ∧ ∀ (r50 : Int32) (I51 : TI), φ48 r50 I51 → ((r50 = 0 → K a1 = 12 ∧ ∃ φ58 : Int32 → TI → Prop, MtI l G yX1_addAll cX1_addAll 3 (some .boolean) d [.ref a1, .ref b32] K N I51 R27 L sz φ58 ∧ ∀ (r60 : Int32) (I61 : TI), φ58 r60 I61 → ((r60 = 0 → φ (-3) I61 R27) ∧ (¬ r60 = 0 → φ 0 I61 R27))) ∧ (¬ r50 = 0 → φ r50 I51 R27))) ∧ (¬ r25 = 0 → φ r25 I26 R27))) ∧ (x4 = 0 → (((I17 a2 3) = 0 → ∃ φ67 : Int32 → TI → TR → Prop, MtJ l G yX5_makeRow cX5_makeRow 8 (some .int) d [.ref a0, .ref b13, .int (x3 + 1), .int 0] K N I17 R L sz φ67 ∧ ∀ (r69 : Int32) (I70 : TI) (R71 : TR), φ67 r69 I70 R71 → ((r69 = 0 → ∃ b76, R71 a0 7 = some b76 ∧ K b76 = 12 ∧ ∃ φ79 : TI → Prop, MtV l G yX1_clear cX1_clear 1 none d [.ref b76] K N I70 R71 L sz φ79 ∧ ∀ (I82 : TI), φ79 I82 → K b13 = 14 ∧ ∃ b89, R71 b13 2 = some b89 ∧ K b89 = 12 ∧ ∃ φ92 : Int32 → TI → Prop, MtI l G yX5_matchPart cX5_matchPart 8 (some .int) d [.ref a0, .ref b89, .int 0, .int (I82 b89 6), .ref a2, .ref b76] K N I82 R71 L sz φ92 ∧ ∀ (r94 : Int32) (I95 : TI), φ92 r94 I95 → ((r94 = 0 → K a1 = 12 ∧ ∃ φ102 : Int32 → TI → Prop, MtI l G yX1_addAll cX1_addAll 3 (some .boolean) d [.ref a1, .ref b76] K N I95 R71 L sz φ102 ∧ ∀ (r104 : Int32) (I105 : TI), φ102 r104 I105 → ((r104 = 0 → φ (-3) I105 R71) ∧ (¬ r104 = 0 → φ 0 I105 R71))) ∧ (¬ r94 = 0 → φ r94 I95 R71))) ∧ (¬ r69 = 0 → φ r69 I70 R71))) ∧ (¬ (I17 a2 3) = 0 → ∃ φ111 : Int32 → TI → TR → Prop, MtJ l G yX5_makeRow cX5_makeRow 8 (some .int) d [.ref a0, .ref b13, .int (x3 + 1), .int 1] K N I17 R L sz φ111 ∧ ∀ (r113 : Int32) (I114 : TI) (R115 : TR), φ111 r113 I114 R115 → ((r113 = 0 → ∃ b120, R115 a0 7 = some b120 ∧ K b120 = 12 ∧ ∃ φ123 : TI → Prop, MtV l G yX1_clear cX1_clear 1 none d [.ref b120] K N I114 R115 L sz φ123 ∧ ∀ (I126 : TI), φ123 I126 → K b13 = 14 ∧ ∃ b133, R115 b13 2 = some b133 ∧ K b133 = 12 ∧ ∃ φ136 : Int32 → TI → Prop, MtI l G yX5_matchPart cX5_matchPart 8 (some .int) d [.ref a0, .ref b133, .int 0, .int (I126 b133 6), .ref a2, .ref b120] K N I126 R115 L sz φ136 ∧ ∀ (r138 : Int32) (I139 : TI), φ136 r138 I139 → ((r138 = 0 → K a1 = 12 ∧ ∃ φ146 : Int32 → TI → Prop, MtI l G yX1_addAll cX1_addAll 3 (some .boolean) d [.ref a1, .ref b120] K N I139 R115 L sz φ146 ∧ ∀ (r148 : Int32) (I149 : TI), φ146 r148 I149 → ((r148 = 0 → φ (-3) I149 R115) ∧ (¬ r148 = 0 → φ 0 I149 R115))) ∧ (¬ r138 = 0 → φ r138 I139 R115))) ∧ (¬ r113 = 0 → φ r113 I114 R115))))))) ∧ (¬ r16 = 0 → φ (-1) I17 R))))) ∧ (¬ (I a0 11) < 100 → φ (-3) I R))) :
    WJ p l e s m args below meth c G (d + 1) φ K N R0 L sz 7 0 [(0, .ref a0), (1, .ref a1), (2, .ref a2), (3, .int x3), (4, .int x4)] I R := by
  refine wm_aload_n C rfl dX5_addCopy_0 ?_
  obtain ⟨hk1, h⟩ := h
  refine wm_getI C fqX5_120 hk1 dX5_addCopy_1 ?_
  refine wm_bipush C 100 dX5_addCopy_4 ?_ (by decide)
  refine wm_icmp_lt C 12 dX5_addCopy_6 (by decide) (fun q => ?_) (fun q => ?_)
  · replace h := h.1 q
    refine wm_aload_n C rfl dX5_addCopy_12 ?_
    refine wm_dup C rfl dX5_addCopy_13 ?_
    refine wm_getI C fqX5_120 hk1 dX5_addCopy_14 ?_
    refine wm_iconst C 1 dX5_addCopy_17 ?_ (by decide)
    refine wm_iadd C dX5_addCopy_18 ?_
    refine wm_putI C fqX5_120 hk1 dX5_addCopy_19 ?_
    refine nmI (fun I2 hI2 => ?_)
    replace h := h I2 hI2
    refine wm_aload_n C rfl dX5_addCopy_22 ?_
    refine wm_aload_n C rfl dX5_addCopy_23 ?_
    obtain ⟨hk3, h⟩ := h
    refine wm_getI C fqX5_191 hk3 dX5_addCopy_24 ?_
    obtain ⟨φ4, hM5, h⟩ := h
    refine wm_cVR1 C vqX5_192 hM5 hk1 ⟨Nat.le_refl _, Nat.le_refl _⟩ (Nat.le_of_ble_eq_true rfl) ⟨Nat.le_of_ble_eq_true rfl, Nat.le_of_ble_eq_true rfl⟩ dX5_addCopy_27 (fun r6 I7 hφ12 => ?_)
    replace h := h r6 I7 hφ12
    refine wm_astoreQ C (by decide) dX5_addCopy_30 ?_
    refine wm_aloadQ C rfl dX5_addCopy_32 ?_
    rcases r6 with _ | b13
    · replace h := h.1 rfl
      refine wm_ifnonnullN C dX5_addCopy_34 ?_
      refine wm_bipush C (-10) dX5_addCopy_37 ?_ (by decide)
      refine wm_aload_n C rfl dX5_addCopy_39 ?_
      refine wm_getI C fqX5_168 hk3 dX5_addCopy_40 ?_
      refine wm_isub C dX5_addCopy_43 ?_
      exact wm_iret C hr rfl (Nat.le_of_ble_eq_true rfl) (Nat.le_of_ble_eq_true rfl) ⟨rfl, rfl, rfl, rfl, _, rfl, h⟩ dX5_addCopy_44
    · replace h := h.2 b13 rfl
      refine wm_ifnonnull C 45 dX5_addCopy_34 ?_ (by decide)
      refine wm_aload_n C rfl dX5_addCopy_45 ?_
      refine wm_aload C rfl dX5_addCopy_46 ?_
      refine wm_iload_n C rfl dX5_addCopy_48 ?_
      obtain ⟨φ14, hM15, h⟩ := h
      refine wm_cVI2 C vqX5_195 hM15 hk1 ⟨Nat.le_refl _, Nat.le_refl _⟩ (Nat.le_of_ble_eq_true rfl) ⟨Nat.le_of_ble_eq_true rfl, Nat.le_of_ble_eq_true rfl⟩ dX5_addCopy_49 (fun r16 I17 hφ22 => ?_)
      replace h := h r16 I17 hφ22
      refine wm_if_eq C 57 dX5_addCopy_52 (by decide) (fun q => ?_) (fun q => ?_)
      · replace h := h.1 q
        refine wm_aload_n C rfl dX5_addCopy_57 ?_
        refine wm_aload C rfl dX5_addCopy_58 ?_
        refine wm_iload_n C rfl dX5_addCopy_60 ?_
        refine wm_iconst C 1 dX5_addCopy_61 ?_ (by decide)
        refine wm_iadd C dX5_addCopy_62 ?_
        refine wm_iload C rfl dX5_addCopy_63 ?_
        refine wm_if_ne C 75 dX5_addCopy_65 (by decide) (fun q => ?_) (fun q => ?_)
        · replace h := h.1 q
          refine wm_iconst C 1 dX5_addCopy_75 ?_ (by decide)
          refine wm_goto C 80 dX5_addCopy_76 ?_ (by decide)
          obtain ⟨φ23, hM24, h⟩ := h
          refine wm_cVJ3 C vqX5_127 hM24 hk1 ⟨Nat.le_refl _, Nat.le_refl _⟩ (Nat.le_of_ble_eq_true rfl) ⟨Nat.le_of_ble_eq_true rfl, Nat.le_of_ble_eq_true rfl⟩ dX5_addCopy_80 (fun r25 I26 R27 hφ31 => ?_)
          replace h := h r25 I26 R27 hφ31
          refine wm_istore C (by decide) dX5_addCopy_83 ?_
          refine wm_iload C rfl dX5_addCopy_85 ?_
          refine wm_if_eq C 93 dX5_addCopy_87 (by decide) (fun q => ?_) (fun q => ?_)
          · replace h := h.1 q
            refine wm_aload_n C rfl dX5_addCopy_93 ?_
            obtain ⟨b32, hr33, h⟩ := h
            refine wm_getR C fqX5_33 hk1 hr33 dX5_addCopy_94 ?_
            obtain ⟨hk34, h⟩ := h
            obtain ⟨φ35, hM36, h⟩ := h
            refine wm_cVV0 C vqX5_114 hM36 hk34 ⟨Nat.le_refl _, Nat.le_refl _⟩ (Nat.le_of_ble_eq_true rfl) ⟨Nat.le_of_ble_eq_true rfl, Nat.le_of_ble_eq_true rfl⟩ dX5_addCopy_97 (fun I38 hφ43 => ?_)
            replace h := h I38 hφ43
            refine wm_aload_n C rfl dX5_addCopy_100 ?_
            refine wm_aload C rfl dX5_addCopy_101 ?_
            obtain ⟨hk44, h⟩ := h
            obtain ⟨b45, hr46, h⟩ := h
            refine wm_getR C fqX5_131 hk44 hr46 dX5_addCopy_103 ?_
            refine wm_iconst C 0 dX5_addCopy_106 ?_ (by decide)
            refine wm_aload C rfl dX5_addCopy_107 ?_
            refine wm_getR C fqX5_131 hk44 hr46 dX5_addCopy_109 ?_
            obtain ⟨hk47, h⟩ := h
            refine wm_getI C fqX5_126 hk47 dX5_addCopy_112 ?_
            refine wm_aload_n C rfl dX5_addCopy_115 ?_
            refine wm_aload_n C rfl dX5_addCopy_116 ?_
            refine wm_getR C fqX5_33 hk1 hr33 dX5_addCopy_117 ?_
            obtain ⟨φ48, hM49, h⟩ := h
            refine wm_cVI5 C vqX5_201 hM49 hk1 ⟨Nat.le_refl _, Nat.le_refl _⟩ (Nat.le_of_ble_eq_true rfl) ⟨Nat.le_of_ble_eq_true rfl, Nat.le_of_ble_eq_true rfl⟩ dX5_addCopy_120 (fun r50 I51 hφ56 => ?_)
            replace h := h r50 I51 hφ56
            refine wm_istore C (by decide) dX5_addCopy_123 ?_
            refine wm_iload C rfl dX5_addCopy_125 ?_
            refine wm_if_eq C 133 dX5_addCopy_127 (by decide) (fun q => ?_) (fun q => ?_)
            · replace h := h.1 q
              refine wm_aload_n C rfl dX5_addCopy_133 ?_
              refine wm_aload_n C rfl dX5_addCopy_134 ?_
              refine wm_getR C fqX5_33 hk1 hr33 dX5_addCopy_135 ?_
              obtain ⟨hk57, h⟩ := h
              obtain ⟨φ58, hM59, h⟩ := h
              refine wm_cVI1 C vqX5_205 hM59 hk57 ⟨Nat.le_refl _, Nat.le_refl _⟩ (Nat.le_of_ble_eq_true rfl) ⟨Nat.le_of_ble_eq_true rfl, Nat.le_of_ble_eq_true rfl⟩ dX5_addCopy_138 (fun r60 I61 hφ66 => ?_)
              replace h := h r60 I61 hφ66
              refine wm_if_eq C 148 dX5_addCopy_141 (by decide) (fun q => ?_) (fun q => ?_)
              · replace h := h.1 q
                refine wm_bipush C (-3) dX5_addCopy_148 ?_ (by decide)
                exact wm_iret C hr rfl (Nat.le_of_ble_eq_true rfl) (Nat.le_of_ble_eq_true rfl) ⟨rfl, rfl, rfl, rfl, _, rfl, h⟩ dX5_addCopy_150
              · replace h := h.2 q
                refine wm_iconst C 0 dX5_addCopy_144 ?_ (by decide)
                refine wm_goto C 150 dX5_addCopy_145 ?_ (by decide)
                exact wm_iret C hr rfl (Nat.le_of_ble_eq_true rfl) (Nat.le_of_ble_eq_true rfl) ⟨rfl, rfl, rfl, rfl, _, rfl, h⟩ dX5_addCopy_150
            · replace h := h.2 q
              refine wm_iload C rfl dX5_addCopy_130 ?_
              exact wm_iret C hr rfl (Nat.le_of_ble_eq_true rfl) (Nat.le_of_ble_eq_true rfl) ⟨rfl, rfl, rfl, rfl, _, rfl, h⟩ dX5_addCopy_132
          · replace h := h.2 q
            refine wm_iload C rfl dX5_addCopy_90 ?_
            exact wm_iret C hr rfl (Nat.le_of_ble_eq_true rfl) (Nat.le_of_ble_eq_true rfl) ⟨rfl, rfl, rfl, rfl, _, rfl, h⟩ dX5_addCopy_92
        · replace h := h.2 q
          refine wm_aload_n C rfl dX5_addCopy_68 ?_
          refine wm_getI C fqX5_199 hk3 dX5_addCopy_69 ?_
          refine wm_if_eq C 79 dX5_addCopy_72 (by decide) (fun q => ?_) (fun q => ?_)
          · replace h := h.1 q
            refine wm_iconst C 0 dX5_addCopy_79 ?_ (by decide)
            obtain ⟨φ67, hM68, h⟩ := h
            refine wm_cVJ3 C vqX5_127 hM68 hk1 ⟨Nat.le_refl _, Nat.le_refl _⟩ (Nat.le_of_ble_eq_true rfl) ⟨Nat.le_of_ble_eq_true rfl, Nat.le_of_ble_eq_true rfl⟩ dX5_addCopy_80 (fun r69 I70 R71 hφ75 => ?_)
            replace h := h r69 I70 R71 hφ75
            refine wm_istore C (by decide) dX5_addCopy_83 ?_
            refine wm_iload C rfl dX5_addCopy_85 ?_
            refine wm_if_eq C 93 dX5_addCopy_87 (by decide) (fun q => ?_) (fun q => ?_)
            · replace h := h.1 q
              refine wm_aload_n C rfl dX5_addCopy_93 ?_
              obtain ⟨b76, hr77, h⟩ := h
              refine wm_getR C fqX5_33 hk1 hr77 dX5_addCopy_94 ?_
              obtain ⟨hk78, h⟩ := h
              obtain ⟨φ79, hM80, h⟩ := h
              refine wm_cVV0 C vqX5_114 hM80 hk78 ⟨Nat.le_refl _, Nat.le_refl _⟩ (Nat.le_of_ble_eq_true rfl) ⟨Nat.le_of_ble_eq_true rfl, Nat.le_of_ble_eq_true rfl⟩ dX5_addCopy_97 (fun I82 hφ87 => ?_)
              replace h := h I82 hφ87
              refine wm_aload_n C rfl dX5_addCopy_100 ?_
              refine wm_aload C rfl dX5_addCopy_101 ?_
              obtain ⟨hk88, h⟩ := h
              obtain ⟨b89, hr90, h⟩ := h
              refine wm_getR C fqX5_131 hk88 hr90 dX5_addCopy_103 ?_
              refine wm_iconst C 0 dX5_addCopy_106 ?_ (by decide)
              refine wm_aload C rfl dX5_addCopy_107 ?_
              refine wm_getR C fqX5_131 hk88 hr90 dX5_addCopy_109 ?_
              obtain ⟨hk91, h⟩ := h
              refine wm_getI C fqX5_126 hk91 dX5_addCopy_112 ?_
              refine wm_aload_n C rfl dX5_addCopy_115 ?_
              refine wm_aload_n C rfl dX5_addCopy_116 ?_
              refine wm_getR C fqX5_33 hk1 hr77 dX5_addCopy_117 ?_
              obtain ⟨φ92, hM93, h⟩ := h
              refine wm_cVI5 C vqX5_201 hM93 hk1 ⟨Nat.le_refl _, Nat.le_refl _⟩ (Nat.le_of_ble_eq_true rfl) ⟨Nat.le_of_ble_eq_true rfl, Nat.le_of_ble_eq_true rfl⟩ dX5_addCopy_120 (fun r94 I95 hφ100 => ?_)
              replace h := h r94 I95 hφ100
              refine wm_istore C (by decide) dX5_addCopy_123 ?_
              refine wm_iload C rfl dX5_addCopy_125 ?_
              refine wm_if_eq C 133 dX5_addCopy_127 (by decide) (fun q => ?_) (fun q => ?_)
              · replace h := h.1 q
                refine wm_aload_n C rfl dX5_addCopy_133 ?_
                refine wm_aload_n C rfl dX5_addCopy_134 ?_
                refine wm_getR C fqX5_33 hk1 hr77 dX5_addCopy_135 ?_
                obtain ⟨hk101, h⟩ := h
                obtain ⟨φ102, hM103, h⟩ := h
                refine wm_cVI1 C vqX5_205 hM103 hk101 ⟨Nat.le_refl _, Nat.le_refl _⟩ (Nat.le_of_ble_eq_true rfl) ⟨Nat.le_of_ble_eq_true rfl, Nat.le_of_ble_eq_true rfl⟩ dX5_addCopy_138 (fun r104 I105 hφ110 => ?_)
                replace h := h r104 I105 hφ110
                refine wm_if_eq C 148 dX5_addCopy_141 (by decide) (fun q => ?_) (fun q => ?_)
                · replace h := h.1 q
                  refine wm_bipush C (-3) dX5_addCopy_148 ?_ (by decide)
                  exact wm_iret C hr rfl (Nat.le_of_ble_eq_true rfl) (Nat.le_of_ble_eq_true rfl) ⟨rfl, rfl, rfl, rfl, _, rfl, h⟩ dX5_addCopy_150
                · replace h := h.2 q
                  refine wm_iconst C 0 dX5_addCopy_144 ?_ (by decide)
                  refine wm_goto C 150 dX5_addCopy_145 ?_ (by decide)
                  exact wm_iret C hr rfl (Nat.le_of_ble_eq_true rfl) (Nat.le_of_ble_eq_true rfl) ⟨rfl, rfl, rfl, rfl, _, rfl, h⟩ dX5_addCopy_150
              · replace h := h.2 q
                refine wm_iload C rfl dX5_addCopy_130 ?_
                exact wm_iret C hr rfl (Nat.le_of_ble_eq_true rfl) (Nat.le_of_ble_eq_true rfl) ⟨rfl, rfl, rfl, rfl, _, rfl, h⟩ dX5_addCopy_132
            · replace h := h.2 q
              refine wm_iload C rfl dX5_addCopy_90 ?_
              exact wm_iret C hr rfl (Nat.le_of_ble_eq_true rfl) (Nat.le_of_ble_eq_true rfl) ⟨rfl, rfl, rfl, rfl, _, rfl, h⟩ dX5_addCopy_92
          · replace h := h.2 q
            refine wm_iconst C 1 dX5_addCopy_75 ?_ (by decide)
            refine wm_goto C 80 dX5_addCopy_76 ?_ (by decide)
            obtain ⟨φ111, hM112, h⟩ := h
            refine wm_cVJ3 C vqX5_127 hM112 hk1 ⟨Nat.le_refl _, Nat.le_refl _⟩ (Nat.le_of_ble_eq_true rfl) ⟨Nat.le_of_ble_eq_true rfl, Nat.le_of_ble_eq_true rfl⟩ dX5_addCopy_80 (fun r113 I114 R115 hφ119 => ?_)
            replace h := h r113 I114 R115 hφ119
            refine wm_istore C (by decide) dX5_addCopy_83 ?_
            refine wm_iload C rfl dX5_addCopy_85 ?_
            refine wm_if_eq C 93 dX5_addCopy_87 (by decide) (fun q => ?_) (fun q => ?_)
            · replace h := h.1 q
              refine wm_aload_n C rfl dX5_addCopy_93 ?_
              obtain ⟨b120, hr121, h⟩ := h
              refine wm_getR C fqX5_33 hk1 hr121 dX5_addCopy_94 ?_
              obtain ⟨hk122, h⟩ := h
              obtain ⟨φ123, hM124, h⟩ := h
              refine wm_cVV0 C vqX5_114 hM124 hk122 ⟨Nat.le_refl _, Nat.le_refl _⟩ (Nat.le_of_ble_eq_true rfl) ⟨Nat.le_of_ble_eq_true rfl, Nat.le_of_ble_eq_true rfl⟩ dX5_addCopy_97 (fun I126 hφ131 => ?_)
              replace h := h I126 hφ131
              refine wm_aload_n C rfl dX5_addCopy_100 ?_
              refine wm_aload C rfl dX5_addCopy_101 ?_
              obtain ⟨hk132, h⟩ := h
              obtain ⟨b133, hr134, h⟩ := h
              refine wm_getR C fqX5_131 hk132 hr134 dX5_addCopy_103 ?_
              refine wm_iconst C 0 dX5_addCopy_106 ?_ (by decide)
              refine wm_aload C rfl dX5_addCopy_107 ?_
              refine wm_getR C fqX5_131 hk132 hr134 dX5_addCopy_109 ?_
              obtain ⟨hk135, h⟩ := h
              refine wm_getI C fqX5_126 hk135 dX5_addCopy_112 ?_
              refine wm_aload_n C rfl dX5_addCopy_115 ?_
              refine wm_aload_n C rfl dX5_addCopy_116 ?_
              refine wm_getR C fqX5_33 hk1 hr121 dX5_addCopy_117 ?_
              obtain ⟨φ136, hM137, h⟩ := h
              refine wm_cVI5 C vqX5_201 hM137 hk1 ⟨Nat.le_refl _, Nat.le_refl _⟩ (Nat.le_of_ble_eq_true rfl) ⟨Nat.le_of_ble_eq_true rfl, Nat.le_of_ble_eq_true rfl⟩ dX5_addCopy_120 (fun r138 I139 hφ144 => ?_)
              replace h := h r138 I139 hφ144
              refine wm_istore C (by decide) dX5_addCopy_123 ?_
              refine wm_iload C rfl dX5_addCopy_125 ?_
              refine wm_if_eq C 133 dX5_addCopy_127 (by decide) (fun q => ?_) (fun q => ?_)
              · replace h := h.1 q
                refine wm_aload_n C rfl dX5_addCopy_133 ?_
                refine wm_aload_n C rfl dX5_addCopy_134 ?_
                refine wm_getR C fqX5_33 hk1 hr121 dX5_addCopy_135 ?_
                obtain ⟨hk145, h⟩ := h
                obtain ⟨φ146, hM147, h⟩ := h
                refine wm_cVI1 C vqX5_205 hM147 hk145 ⟨Nat.le_refl _, Nat.le_refl _⟩ (Nat.le_of_ble_eq_true rfl) ⟨Nat.le_of_ble_eq_true rfl, Nat.le_of_ble_eq_true rfl⟩ dX5_addCopy_138 (fun r148 I149 hφ154 => ?_)
                replace h := h r148 I149 hφ154
                refine wm_if_eq C 148 dX5_addCopy_141 (by decide) (fun q => ?_) (fun q => ?_)
                · replace h := h.1 q
                  refine wm_bipush C (-3) dX5_addCopy_148 ?_ (by decide)
                  exact wm_iret C hr rfl (Nat.le_of_ble_eq_true rfl) (Nat.le_of_ble_eq_true rfl) ⟨rfl, rfl, rfl, rfl, _, rfl, h⟩ dX5_addCopy_150
                · replace h := h.2 q
                  refine wm_iconst C 0 dX5_addCopy_144 ?_ (by decide)
                  refine wm_goto C 150 dX5_addCopy_145 ?_ (by decide)
                  exact wm_iret C hr rfl (Nat.le_of_ble_eq_true rfl) (Nat.le_of_ble_eq_true rfl) ⟨rfl, rfl, rfl, rfl, _, rfl, h⟩ dX5_addCopy_150
              · replace h := h.2 q
                refine wm_iload C rfl dX5_addCopy_130 ?_
                exact wm_iret C hr rfl (Nat.le_of_ble_eq_true rfl) (Nat.le_of_ble_eq_true rfl) ⟨rfl, rfl, rfl, rfl, _, rfl, h⟩ dX5_addCopy_132
            · replace h := h.2 q
              refine wm_iload C rfl dX5_addCopy_90 ?_
              exact wm_iret C hr rfl (Nat.le_of_ble_eq_true rfl) (Nat.le_of_ble_eq_true rfl) ⟨rfl, rfl, rfl, rfl, _, rfl, h⟩ dX5_addCopy_92
      · replace h := h.2 q
        refine wm_iconst C (-1) dX5_addCopy_55 ?_ (by decide)
        exact wm_iret C hr rfl (Nat.le_of_ble_eq_true rfl) (Nat.le_of_ble_eq_true rfl) ⟨rfl, rfl, rfl, rfl, _, rfl, h⟩ dX5_addCopy_56
  · replace h := h.2 q
    refine wm_bipush C (-3) dX5_addCopy_9 ?_ (by decide)
    exact wm_iret C hr rfl (Nat.le_of_ble_eq_true rfl) (Nat.le_of_ble_eq_true rfl) ⟨rfl, rfl, rfl, rfl, _, rfl, h⟩ dX5_addCopy_11
set_option maxRecDepth 100000 in
set_option maxHeartbeats 4000000 in
theorem sX5_addCopy {l : Launch} {G : Gx} {d : Nat} {K N : TK} {I : TI} {R : TR} {L : TL} {sz : Nat} {φ : Int32 → TI → TR → Prop} {a0 : Nat} {a1 : Nat} {a2 : Nat} {x3 : Int32} {x4 : Int32}
    (h : K a0 = 16 ∧ (((I a0 11) < 100 → ∀ I2 : TI, I2 = u2 I a0 11 ((I a0 11) + 1) → K a2 = 13 ∧ ∃ φ4 : Option Nat → TI → Prop, MtR l G yX5_textNamed cX5_textNamed 4 (some (.object "CopyReplace$Text")) d [.ref a0, .int (I2 a2 2)] K N I2 R L sz φ4 ∧ ∀ (r6 : Option Nat) (I7 : TI), φ4 r6 I7 → ((r6 = none → φ ((-10) - (I7 a2 0)) I7 R) ∧ (∀ b13 : Nat, r6 = some b13 → ∃ φ14 : Int32 → TI → Prop, MtI l G yX5_closesRing cX5_closesRing 5 (some .boolean) d [.ref a0, .ref b13, .int x3] K N I7 R L sz φ14 ∧ ∀ (r16 : Int32) (I17 : TI), φ14 r16 I17 → ((r16 = 0 → ((¬ x4 = 0 → ∃ φ23 : Int32 → TI → TR → Prop, MtJ l G yX5_makeRow cX5_makeRow 8 (some .int) d [.ref a0, .ref b13, .int (x3 + 1), .int 1] K N I17 R L sz φ23 ∧ ∀ (r25 : Int32) (I26 : TI) (R27 : TR), φ23 r25 I26 R27 → ((r25 = 0 → ∃ b32, R27 a0 7 = some b32 ∧ K b32 = 12 ∧ ∃ φ35 : TI → Prop, MtV l G yX1_clear cX1_clear 1 none d [.ref b32] K N I26 R27 L sz φ35 ∧ ∀ (I38 : TI), φ35 I38 → K b13 = 14 ∧ ∃ b45, R27 b13 2 = some b45 ∧ K b45 = 12 ∧ ∃ φ48 : Int32 → TI → Prop, MtI l G yX5_matchPart cX5_matchPart 8 (some .int) d [.ref a0, .ref b45, .int 0, .int (I38 b45 6), .ref a2, .ref b32] K N I38 R27 L sz φ48 ∧ ∀ (r50 : Int32) (I51 : TI), φ48 r50 I51 → ((r50 = 0 → K a1 = 12 ∧ ∃ φ58 : Int32 → TI → Prop, MtI l G yX1_addAll cX1_addAll 3 (some .boolean) d [.ref a1, .ref b32] K N I51 R27 L sz φ58 ∧ ∀ (r60 : Int32) (I61 : TI), φ58 r60 I61 → ((r60 = 0 → φ (-3) I61 R27) ∧ (¬ r60 = 0 → φ 0 I61 R27))) ∧ (¬ r50 = 0 → φ r50 I51 R27))) ∧ (¬ r25 = 0 → φ r25 I26 R27))) ∧ (x4 = 0 → (((I17 a2 3) = 0 → ∃ φ67 : Int32 → TI → TR → Prop, MtJ l G yX5_makeRow cX5_makeRow 8 (some .int) d [.ref a0, .ref b13, .int (x3 + 1), .int 0] K N I17 R L sz φ67 ∧ ∀ (r69 : Int32) (I70 : TI) (R71 : TR), φ67 r69 I70 R71 → ((r69 = 0 → ∃ b76, R71 a0 7 = some b76 ∧ K b76 = 12 ∧ ∃ φ79 : TI → Prop, MtV l G yX1_clear cX1_clear 1 none d [.ref b76] K N I70 R71 L sz φ79 ∧ ∀ (I82 : TI), φ79 I82 → K b13 = 14 ∧ ∃ b89, R71 b13 2 = some b89 ∧ K b89 = 12 ∧ ∃ φ92 : Int32 → TI → Prop, MtI l G yX5_matchPart cX5_matchPart 8 (some .int) d [.ref a0, .ref b89, .int 0, .int (I82 b89 6), .ref a2, .ref b76] K N I82 R71 L sz φ92 ∧ ∀ (r94 : Int32) (I95 : TI), φ92 r94 I95 → ((r94 = 0 → K a1 = 12 ∧ ∃ φ102 : Int32 → TI → Prop, MtI l G yX1_addAll cX1_addAll 3 (some .boolean) d [.ref a1, .ref b76] K N I95 R71 L sz φ102 ∧ ∀ (r104 : Int32) (I105 : TI), φ102 r104 I105 → ((r104 = 0 → φ (-3) I105 R71) ∧ (¬ r104 = 0 → φ 0 I105 R71))) ∧ (¬ r94 = 0 → φ r94 I95 R71))) ∧ (¬ r69 = 0 → φ r69 I70 R71))) ∧ (¬ (I17 a2 3) = 0 → ∃ φ111 : Int32 → TI → TR → Prop, MtJ l G yX5_makeRow cX5_makeRow 8 (some .int) d [.ref a0, .ref b13, .int (x3 + 1), .int 1] K N I17 R L sz φ111 ∧ ∀ (r113 : Int32) (I114 : TI) (R115 : TR), φ111 r113 I114 R115 → ((r113 = 0 → ∃ b120, R115 a0 7 = some b120 ∧ K b120 = 12 ∧ ∃ φ123 : TI → Prop, MtV l G yX1_clear cX1_clear 1 none d [.ref b120] K N I114 R115 L sz φ123 ∧ ∀ (I126 : TI), φ123 I126 → K b13 = 14 ∧ ∃ b133, R115 b13 2 = some b133 ∧ K b133 = 12 ∧ ∃ φ136 : Int32 → TI → Prop, MtI l G yX5_matchPart cX5_matchPart 8 (some .int) d [.ref a0, .ref b133, .int 0, .int (I126 b133 6), .ref a2, .ref b120] K N I126 R115 L sz φ136 ∧ ∀ (r138 : Int32) (I139 : TI), φ136 r138 I139 → ((r138 = 0 → K a1 = 12 ∧ ∃ φ146 : Int32 → TI → Prop, MtI l G yX1_addAll cX1_addAll 3 (some .boolean) d [.ref a1, .ref b120] K N I139 R115 L sz φ146 ∧ ∀ (r148 : Int32) (I149 : TI), φ146 r148 I149 → ((r148 = 0 → φ (-3) I149 R115) ∧ (¬ r148 = 0 → φ 0 I149 R115))) ∧ (¬ r138 = 0 → φ r138 I139 R115))) ∧ (¬ r113 = 0 → φ r113 I114 R115))))))) ∧ (¬ r16 = 0 → φ (-1) I17 R))))) ∧ (¬ (I a0 11) < 100 → φ (-3) I R))) :
    MtJ l G yX5_addCopy cX5_addCopy 7 (some .int) (d + 1) [.ref a0, .ref a1, .ref a2, .int x3, .int x4] K N I R L sz φ :=
  MetM.of (own := RX5) (by decide) rfl (catR (catR (catR (catI (catI cat0))))) (Nat.le_of_ble_eq_true rfl) (fun p e s m args below meth c C hr hnm => vX5_addCopy_0 C hr h)
set_option maxRecDepth 100000 in
set_option maxHeartbeats 4000000 in
theorem vX5_closesRing_0 {p : Program} {l : Launch} {e : Env} {s : State} {m : MethodId} {args : Array Value} {below : List Frame} {meth : Method} {c : Code} {G : Gx} {d : Nat} {K N : TK} {I : TI} {R : TR} {L : TL} {sz : Nat} {φ : Int32 → TI → Prop} (C : Cx p s m args meth c (AM K sz) G RX5 cX5_closesRing 5) (hr : meth.sig.returnType = (some .boolean)) {a0 : Nat} {a1 : Nat} {x2 : Int32}
    (h : (WI p l e s m args below meth c G (d + 1) φ K N R L sz 5 2 [(0, .ref a0), (1, .ref a1), (2, .int x2), (3, .int 0)] I)) :
    WI p l e s m args below meth c G (d + 1) φ K N R L sz 5 0 [(0, .ref a0), (1, .ref a1), (2, .int x2)] I := by
  refine wm_iconst C 0 dX5_closesRing_0 ?_ (by decide)
  refine wm_istore_n C (by decide) dX5_closesRing_1 ?_
  exact h
set_option maxRecDepth 100000 in
set_option maxHeartbeats 4000000 in
theorem vX5_closesRing_2 {p : Program} {l : Launch} {e : Env} {s : State} {m : MethodId} {args : Array Value} {below : List Frame} {meth : Method} {c : Code} {G : Gx} {d : Nat} {K N : TK} {I : TI} {R : TR} {L : TL} {sz : Nat} {φ : Int32 → TI → Prop} (C : Cx p s m args meth c (AM K sz) G RX5 cX5_closesRing 5) (hr : meth.sig.returnType = (some .boolean)) {a0 : Nat} {a1 : Nat} {x2 : Int32} {x3 : Int32}
    (h : ((x2 < x3 → K a0 = 16 ∧ (((I a0 10) ≤ 0 → φ 0 I) ∧ (¬ (I a0 10) ≤ 0 → φ 1 I))) ∧ (¬ x2 < x3 → K a0 = 16 ∧ ∃ b3, R a0 6 = some b3 ∧ K b3 = 25 ∧ (((nI (N b3)) ≤ x3 → (((I a0 10) ≤ 0 → φ 0 I) ∧ (¬ (I a0 10) ≤ 0 → φ 1 I))) ∧ (¬ (nI (N b3)) ≤ x3 → vp_in x3 (N b3) ∧ ∃ b7, R b3 (Int32.toNatClampNeg x3) = some b7 ∧ ((b7 = a1 → ∃ φ9 : TI → Prop, MtV l G yX5_keepRingName cX5_keepRingName 2 none d [.ref a0, .ref b7] K N I R L sz φ9 ∧ ∀ (I12 : TI), φ9 I12 → (WI p l e s m args below meth c G (d + 1) φ K N R L sz 5 2 [(0, .ref a0), (1, .ref a1), (2, .int x2), (3, .int (x3 + 1))] I12)) ∧ (¬ b7 = a1 → (((I a0 10) ≤ 0 → (WI p l e s m args below meth c G (d + 1) φ K N R L sz 5 2 [(0, .ref a0), (1, .ref a1), (2, .int x2), (3, .int (x3 + 1))] I)) ∧ (¬ (I a0 10) ≤ 0 → ∃ φ18 : TI → Prop, MtV l G yX5_keepRingName cX5_keepRingName 2 none d [.ref a0, .ref b7] K N I R L sz φ18 ∧ ∀ (I21 : TI), φ18 I21 → (WI p l e s m args below meth c G (d + 1) φ K N R L sz 5 2 [(0, .ref a0), (1, .ref a1), (2, .int x2), (3, .int (x3 + 1))] I21)))))))))) :
    WI p l e s m args below meth c G (d + 1) φ K N R L sz 5 2 [(0, .ref a0), (1, .ref a1), (2, .int x2), (3, .int x3)] I := by
  refine wm_iload_n C rfl dX5_closesRing_2 ?_
  refine wm_iload_n C rfl dX5_closesRing_3 ?_
  refine wm_icmp_gt C 49 dX5_closesRing_4 (by decide) (fun q => ?_) (fun q => ?_)
  · replace h := h.1 q
    refine wm_aload_n C rfl dX5_closesRing_49 ?_
    obtain ⟨hk1, h⟩ := h
    refine wm_getI C fqX5_117 hk1 dX5_closesRing_50 ?_
    refine wm_if_le C 60 dX5_closesRing_53 (by decide) (fun q => ?_) (fun q => ?_)
    · replace h := h.1 q
      refine wm_iconst C 0 dX5_closesRing_60 ?_ (by decide)
      exact wm_iret C hr rfl (Nat.le_of_ble_eq_true rfl) (Nat.le_of_ble_eq_true rfl) ⟨rfl, rfl, rfl, rfl, rfl, _, rfl, h⟩ dX5_closesRing_61
    · replace h := h.2 q
      refine wm_iconst C 1 dX5_closesRing_56 ?_ (by decide)
      refine wm_goto C 61 dX5_closesRing_57 ?_ (by decide)
      exact wm_iret C hr rfl (Nat.le_of_ble_eq_true rfl) (Nat.le_of_ble_eq_true rfl) ⟨rfl, rfl, rfl, rfl, rfl, _, rfl, h⟩ dX5_closesRing_61
  · replace h := h.2 q
    refine wm_iload_n C rfl dX5_closesRing_7 ?_
    refine wm_aload_n C rfl dX5_closesRing_8 ?_
    obtain ⟨hk2, h⟩ := h
    obtain ⟨b3, hr4, h⟩ := h
    refine wm_getR C fqX5_27 hk2 hr4 dX5_closesRing_9 ?_
    obtain ⟨hk5, h⟩ := h
    refine wm_alen C (Or.inr (Or.inr (Or.inr (Or.inr hk5)))) dX5_closesRing_12 ?_
    refine wm_icmp_ge C 49 dX5_closesRing_13 (by decide) (fun q => ?_) (fun q => ?_)
    · replace h := h.1 q
      refine wm_aload_n C rfl dX5_closesRing_49 ?_
      refine wm_getI C fqX5_117 hk2 dX5_closesRing_50 ?_
      refine wm_if_le C 60 dX5_closesRing_53 (by decide) (fun q => ?_) (fun q => ?_)
      · replace h := h.1 q
        refine wm_iconst C 0 dX5_closesRing_60 ?_ (by decide)
        exact wm_iret C hr rfl (Nat.le_of_ble_eq_true rfl) (Nat.le_of_ble_eq_true rfl) ⟨rfl, rfl, rfl, rfl, rfl, _, rfl, h⟩ dX5_closesRing_61
      · replace h := h.2 q
        refine wm_iconst C 1 dX5_closesRing_56 ?_ (by decide)
        refine wm_goto C 61 dX5_closesRing_57 ?_ (by decide)
        exact wm_iret C hr rfl (Nat.le_of_ble_eq_true rfl) (Nat.le_of_ble_eq_true rfl) ⟨rfl, rfl, rfl, rfl, rfl, _, rfl, h⟩ dX5_closesRing_61
    · replace h := h.2 q
      refine wm_aload_n C rfl dX5_closesRing_16 ?_
      refine wm_getR C fqX5_27 hk2 hr4 dX5_closesRing_17 ?_
      refine wm_iload_n C rfl dX5_closesRing_20 ?_
      obtain ⟨hi6, h⟩ := h
      obtain ⟨b7, hr8, h⟩ := h
      refine wm_aald (t := 5) C (by decide) (by decide) hk5 hi6 hr8 dX5_closesRing_21 ?_
      refine wm_astore C (by decide) dX5_closesRing_22 ?_
      refine wm_aload C rfl dX5_closesRing_24 ?_
      refine wm_aload_n C rfl dX5_closesRing_26 ?_
      refine wm_acmp_eq C 37 dX5_closesRing_27 (by decide) (fun q => ?_) (fun q => ?_)
      · replace h := h.1 q
        refine wm_aload_n C rfl dX5_closesRing_37 ?_
        refine wm_aload C rfl dX5_closesRing_38 ?_
        obtain ⟨φ9, hM10, h⟩ := h
        refine wm_cVV1 C vqX5_209 hM10 hk2 ⟨Nat.le_refl _, Nat.le_refl _⟩ (Nat.le_of_ble_eq_true rfl) ⟨Nat.le_of_ble_eq_true rfl, Nat.le_of_ble_eq_true rfl⟩ dX5_closesRing_40 (fun I12 hφ17 => ?_)
        replace h := h I12 hφ17
        refine wm_iinc C (x3 + 1) rfl dX5_closesRing_43 rfl (by decide) ?_
        refine wm_goto C 2 dX5_closesRing_46 ?_ (by decide)
        exact wm_pick [0, 1, 2, 3] rfl h
      · replace h := h.2 q
        refine wm_aload_n C rfl dX5_closesRing_30 ?_
        refine wm_getI C fqX5_117 hk2 dX5_closesRing_31 ?_
        refine wm_if_le C 43 dX5_closesRing_34 (by decide) (fun q => ?_) (fun q => ?_)
        · replace h := h.1 q
          refine wm_iinc C (x3 + 1) rfl dX5_closesRing_43 rfl (by decide) ?_
          refine wm_goto C 2 dX5_closesRing_46 ?_ (by decide)
          exact wm_pick [0, 1, 2, 3] rfl h
        · replace h := h.2 q
          refine wm_aload_n C rfl dX5_closesRing_37 ?_
          refine wm_aload C rfl dX5_closesRing_38 ?_
          obtain ⟨φ18, hM19, h⟩ := h
          refine wm_cVV1 C vqX5_209 hM19 hk2 ⟨Nat.le_refl _, Nat.le_refl _⟩ (Nat.le_of_ble_eq_true rfl) ⟨Nat.le_of_ble_eq_true rfl, Nat.le_of_ble_eq_true rfl⟩ dX5_closesRing_40 (fun I21 hφ26 => ?_)
          replace h := h I21 hφ26
          refine wm_iinc C (x3 + 1) rfl dX5_closesRing_43 rfl (by decide) ?_
          refine wm_goto C 2 dX5_closesRing_46 ?_ (by decide)
          exact wm_pick [0, 1, 2, 3] rfl h
set_option maxRecDepth 100000 in
set_option maxHeartbeats 4000000 in
theorem sX5_closesRing {l : Launch} {G : Gx} {d : Nat} {K N : TK} {I : TI} {R : TR} {L : TL} {sz : Nat} {φ : Int32 → TI → Prop} {a0 : Nat} {a1 : Nat} {x2 : Int32}
    (h : ∀ (p : Program) (e : Env) (s : State) (m : MethodId) (args : Array Value) (below : List Frame) (meth : Method) (c : Code), Cx p s m args meth c (AM K sz) G RX5 cX5_closesRing 5 → meth.sig.returnType = (some .boolean) → (WI p l e s m args below meth c G (d + 1) φ K N R L sz 5 2 [(0, .ref a0), (1, .ref a1), (2, .int x2), (3, .int 0)] I)) :
    MtI l G yX5_closesRing cX5_closesRing 5 (some .boolean) (d + 1) [.ref a0, .ref a1, .int x2] K N I R L sz φ :=
  MetM.of (own := RX5) (by decide) rfl (catR (catR (catI cat0))) (Nat.le_of_ble_eq_true rfl) (fun p e s m args below meth c C hr hnm => vX5_closesRing_0 C hr (h p e s m args below meth c C hr))
set_option maxRecDepth 100000 in
set_option maxHeartbeats 4000000 in
theorem vX5_keepRingName_0 {p : Program} {l : Launch} {e : Env} {s : State} {m : MethodId} {args : Array Value} {below : List Frame} {meth : Method} {c : Code} {G : Gx} {d : Nat} {K N : TK} {I : TI} {R : TR} {L : TL} {sz : Nat} {φ : TI → Prop} (C : Cx p s m args meth c (AM K sz) G RX5 cX5_keepRingName 2) (hr : meth.sig.returnType = none) {a0 : Nat} {a1 : Nat}
    (h : K a0 = 16 ∧ ∃ b2, R a0 9 = some b2 ∧ K b2 = 20 ∧ (((nI (N b2)) ≤ (I a0 10) → φ I) ∧ (¬ (nI (N b2)) ≤ (I a0 10) → K a1 = 14 ∧ vp_in (I a0 10) (N b2) ∧ ∀ I7 : TI, I7 = u2 I b2 (Int32.toNatClampNeg (I a0 10)) (I a1 1) → ∀ I8 : TI, I8 = u2 I7 a0 10 ((I7 a0 10) + 1) → φ I8))) :
    WV p l e s m args below meth c G d φ K N R L sz 2 0 [(0, .ref a0), (1, .ref a1)] I := by
  refine wm_aload_n C rfl dX5_keepRingName_0 ?_
  refine wm_ifnull C dX5_keepRingName_1 ?_
  refine wm_aload_n C rfl dX5_keepRingName_4 ?_
  obtain ⟨hk1, h⟩ := h
  refine wm_getI C fqX5_117 hk1 dX5_keepRingName_5 ?_
  refine wm_aload_n C rfl dX5_keepRingName_8 ?_
  obtain ⟨b2, hr3, h⟩ := h
  refine wm_getR C fqX5_40 hk1 hr3 dX5_keepRingName_9 ?_
  obtain ⟨hk4, h⟩ := h
  refine wm_alen C (Or.inl hk4) dX5_keepRingName_12 ?_
  refine wm_icmp_ge C 39 dX5_keepRingName_13 (by decide) (fun q => ?_) (fun q => ?_)
  · replace h := h.1 q
    exact wm_vret C hr (Nat.le_of_ble_eq_true rfl) (Nat.le_of_ble_eq_true rfl) ⟨rfl, rfl, rfl, rfl, rfl, rfl, h⟩ dX5_keepRingName_39
  · replace h := h.2 q
    refine wm_aload_n C rfl dX5_keepRingName_16 ?_
    refine wm_getR C fqX5_40 hk1 hr3 dX5_keepRingName_17 ?_
    refine wm_aload_n C rfl dX5_keepRingName_20 ?_
    refine wm_getI C fqX5_117 hk1 dX5_keepRingName_21 ?_
    refine wm_aload_n C rfl dX5_keepRingName_24 ?_
    obtain ⟨hk5, h⟩ := h
    refine wm_getI C fqX5_169 hk5 dX5_keepRingName_25 ?_
    obtain ⟨hi6, h⟩ := h
    refine wm_iast C hk4 hi6 dX5_keepRingName_28 ?_
    refine nmI (fun I7 hI7 => ?_)
    replace h := h I7 hI7
    refine wm_aload_n C rfl dX5_keepRingName_29 ?_
    refine wm_dup C rfl dX5_keepRingName_30 ?_
    refine wm_getI C fqX5_117 hk1 dX5_keepRingName_31 ?_
    refine wm_iconst C 1 dX5_keepRingName_34 ?_ (by decide)
    refine wm_iadd C dX5_keepRingName_35 ?_
    refine wm_putI C fqX5_117 hk1 dX5_keepRingName_36 ?_
    refine nmI (fun I8 hI8 => ?_)
    replace h := h I8 hI8
    exact wm_vret C hr (Nat.le_of_ble_eq_true rfl) (Nat.le_of_ble_eq_true rfl) ⟨rfl, rfl, rfl, rfl, rfl, rfl, h⟩ dX5_keepRingName_39
set_option maxRecDepth 100000 in
set_option maxHeartbeats 4000000 in
theorem sX5_keepRingName {l : Launch} {G : Gx} {d : Nat} {K N : TK} {I : TI} {R : TR} {L : TL} {sz : Nat} {φ : TI → Prop} {a0 : Nat} {a1 : Nat}
    (h : K a0 = 16 ∧ ∃ b2, R a0 9 = some b2 ∧ K b2 = 20 ∧ (((nI (N b2)) ≤ (I a0 10) → φ I) ∧ (¬ (nI (N b2)) ≤ (I a0 10) → K a1 = 14 ∧ vp_in (I a0 10) (N b2) ∧ ∀ I7 : TI, I7 = u2 I b2 (Int32.toNatClampNeg (I a0 10)) (I a1 1) → ∀ I8 : TI, I8 = u2 I7 a0 10 ((I7 a0 10) + 1) → φ I8))) :
    MtV l G yX5_keepRingName cX5_keepRingName 2 none d [.ref a0, .ref a1] K N I R L sz φ :=
  MetM.of (own := RX5) (by decide) rfl (catR (catR cat0)) (Nat.le_of_ble_eq_true rfl) (fun p e s m args below meth c C hr hnm => vX5_keepRingName_0 C hr h)
set_option maxRecDepth 100000 in
set_option maxHeartbeats 4000000 in
theorem vX5_matchByReplaces_0 {p : Program} {l : Launch} {e : Env} {s : State} {m : MethodId} {args : Array Value} {below : List Frame} {meth : Method} {c : Code} {G : Gx} {d : Nat} {K N : TK} {I : TI} {R : TR} {L : TL} {sz : Nat} {φ : Int32 → TI → Prop} (C : Cx p s m args meth c (AM K sz) G RX5 cX5_matchByReplaces 7) (hr : meth.sig.returnType = (some .int)) {a0 : Nat} {a1 : Nat}
    (h : (WI p l e s m args below meth c G (d + 1) φ K N R L sz 7 7 [(0, .ref a0), (1, .ref a1), (2, va_rf none), (3, .int 0), (4, .int 0)] I)) :
    WI p l e s m args below meth c G (d + 1) φ K N R L sz 7 0 [(0, .ref a0), (1, .ref a1)] I := by
  refine wm_null C dX5_matchByReplaces_0 ?_
  refine wm_astoreN_n C (by decide) dX5_matchByReplaces_1 ?_
  refine wm_iconst C 0 dX5_matchByReplaces_2 ?_ (by decide)
  refine wm_istore_n C (by decide) dX5_matchByReplaces_3 ?_
  refine wm_iconst C 0 dX5_matchByReplaces_4 ?_ (by decide)
  refine wm_istore C (by decide) dX5_matchByReplaces_5 ?_
  exact h
set_option maxRecDepth 100000 in
set_option maxHeartbeats 4000000 in
theorem vX5_matchByReplaces_7 {p : Program} {l : Launch} {e : Env} {s : State} {m : MethodId} {args : Array Value} {below : List Frame} {meth : Method} {c : Code} {G : Gx} {d : Nat} {K N : TK} {I : TI} {R : TR} {L : TL} {sz : Nat} {φ : Int32 → TI → Prop} (C : Cx p s m args meth c (AM K sz) G RX5 cX5_matchByReplaces 7) (hr : meth.sig.returnType = (some .int)) {a0 : Nat} {a1 : Nat} {o2 : Option Nat} {x3 : Int32} {x4 : Int32}
    (h : K a1 = 12 ∧ (((I a1 6) < x4 → φ 0 I) ∧ (¬ (I a1 6) < x4 → ((¬ x4 = (I a1 6) → ∃ φ2 : Int32 → TI → Prop, MtI l G yX1_code cX1_code 2 (some .int) d [.ref a1, .int x4] K N I R L sz φ2 ∧ ∀ (r4 : Int32) (I5 : TI), φ2 r4 I5 → ((r4 < (-1) → K a0 = 16 ∧ ∃ b12, R a0 8 = some b12 ∧ ∃ φ14 : Int32 → TI → Prop, MtI l G yX5_matchPart cX5_matchPart 8 (some .int) d [.ref a0, .ref a1, .int x3, .int x4, va_rf o2, .ref b12] K N I5 R L sz φ14 ∧ ∀ (r16 : Int32) (I17 : TI), φ14 r16 I17 → ((r16 = 0 → ∃ φ23 : Int32 → TI → Prop, MtI l G yX1_code cX1_code 2 (some .int) d [.ref a1, .int x4] K N I17 R L sz φ23 ∧ ∀ (r25 : Int32) (I26 : TI), φ23 r25 I26 → ∃ φ32 : Option Nat → TI → Prop, MtR l G yX5_statementOf cX5_statementOf 2 (some (.object "CopyReplace$Statement")) d [.ref a0, .int r25] K N I26 R L sz φ32 ∧ ∀ (r34 : Option Nat) (I35 : TI), φ32 r34 I35 → (WI p l e s m args below meth c G (d + 1) φ K N R L sz 7 7 [(0, .ref a0), (1, .ref a1), (2, va_rf r34), (3, .int (x4 + 1)), (4, .int (x4 + 1))] I35)) ∧ (¬ r16 = 0 → φ r16 I17))) ∧ (¬ r4 < (-1) → (WI p l e s m args below meth c G (d + 1) φ K N R L sz 7 7 [(0, .ref a0), (1, .ref a1), (2, va_rf o2), (3, .int x3), (4, .int (x4 + 1))] I5)))) ∧ (x4 = (I a1 6) → K a0 = 16 ∧ ∃ b42, R a0 8 = some b42 ∧ ∃ φ44 : Int32 → TI → Prop, MtI l G yX5_matchPart cX5_matchPart 8 (some .int) d [.ref a0, .ref a1, .int x3, .int x4, va_rf o2, .ref b42] K N I R L sz φ44 ∧ ∀ (r46 : Int32) (I47 : TI), φ44 r46 I47 → ((r46 = 0 → (WI p l e s m args below meth c G (d + 1) φ K N R L sz 7 7 [(0, .ref a0), (1, .ref a1), (2, va_rf none), (3, .int (x4 + 1)), (4, .int (x4 + 1))] I47)) ∧ (¬ r46 = 0 → φ r46 I47))))))) :
    WI p l e s m args below meth c G (d + 1) φ K N R L sz 7 7 [(0, .ref a0), (1, .ref a1), (2, va_rf o2), (3, .int x3), (4, .int x4)] I := by
  refine wm_iload C rfl dX5_matchByReplaces_7 ?_
  refine wm_aload_n C rfl dX5_matchByReplaces_9 ?_
  obtain ⟨hk1, h⟩ := h
  refine wm_getI C fqX5_126 hk1 dX5_matchByReplaces_10 ?_
  refine wm_icmp_gt C 104 dX5_matchByReplaces_13 (by decide) (fun q => ?_) (fun q => ?_)
  · replace h := h.1 q
    refine wm_iconst C 0 dX5_matchByReplaces_104 ?_ (by decide)
    exact wm_iret C hr rfl (Nat.le_of_ble_eq_true rfl) (Nat.le_of_ble_eq_true rfl) ⟨rfl, rfl, rfl, rfl, rfl, _, rfl, h⟩ dX5_matchByReplaces_105
  · replace h := h.2 q
    refine wm_iload C rfl dX5_matchByReplaces_16 ?_
    refine wm_aload_n C rfl dX5_matchByReplaces_18 ?_
    refine wm_getI C fqX5_126 hk1 dX5_matchByReplaces_19 ?_
    refine wm_icmp_ne C 29 dX5_matchByReplaces_22 (by decide) (fun q => ?_) (fun q => ?_)
    · replace h := h.1 q
      refine wm_iconst C 0 dX5_matchByReplaces_29 ?_ (by decide)
      refine wm_istore C (by decide) dX5_matchByReplaces_30 ?_
      refine wm_iload C rfl dX5_matchByReplaces_32 ?_
      refine wm_if_ne C 50 dX5_matchByReplaces_34 (by decide) (fun q => absurd q (by decide)) (fun _ => ?_)
      refine wm_aload_n C rfl dX5_matchByReplaces_37 ?_
      refine wm_iload C rfl dX5_matchByReplaces_38 ?_
      obtain ⟨φ2, hM3, h⟩ := h
      refine wm_cVI1 C vqX5_144 hM3 hk1 ⟨Nat.le_refl _, Nat.le_refl _⟩ (Nat.le_of_ble_eq_true rfl) ⟨Nat.le_of_ble_eq_true rfl, Nat.le_of_ble_eq_true rfl⟩ dX5_matchByReplaces_40 (fun r4 I5 hφ10 => ?_)
      replace h := h r4 I5 hφ10
      refine wm_iconst C (-1) dX5_matchByReplaces_43 ?_ (by decide)
      refine wm_icmp_lt C 50 dX5_matchByReplaces_44 (by decide) (fun q => ?_) (fun q => ?_)
      · replace h := h.1 q
        refine wm_aload_n C rfl dX5_matchByReplaces_50 ?_
        refine wm_aload_n C rfl dX5_matchByReplaces_51 ?_
        refine wm_iload_n C rfl dX5_matchByReplaces_52 ?_
        refine wm_iload C rfl dX5_matchByReplaces_53 ?_
        refine wm_aloadQ_n C rfl dX5_matchByReplaces_55 ?_
        refine wm_aload_n C rfl dX5_matchByReplaces_56 ?_
        obtain ⟨hk11, h⟩ := h
        obtain ⟨b12, hr13, h⟩ := h
        refine wm_getR C fqX5_37 hk11 hr13 dX5_matchByReplaces_57 ?_
        obtain ⟨φ14, hM15, h⟩ := h
        refine wm_cVI5 C vqX5_201 hM15 hk11 ⟨Nat.le_refl _, Nat.le_refl _⟩ (Nat.le_of_ble_eq_true rfl) ⟨Nat.le_of_ble_eq_true rfl, Nat.le_of_ble_eq_true rfl⟩ dX5_matchByReplaces_60 (fun r16 I17 hφ22 => ?_)
        replace h := h r16 I17 hφ22
        refine wm_istore C (by decide) dX5_matchByReplaces_63 ?_
        refine wm_iload C rfl dX5_matchByReplaces_65 ?_
        refine wm_if_eq C 73 dX5_matchByReplaces_67 (by decide) (fun q => ?_) (fun q => ?_)
        · replace h := h.1 q
          refine wm_iload C rfl dX5_matchByReplaces_73 ?_
          refine wm_if_eq C 82 dX5_matchByReplaces_75 (by decide) (fun _ => ?_) (fun q => absurd q (by decide))
          refine wm_aload_n C rfl dX5_matchByReplaces_82 ?_
          refine wm_aload_n C rfl dX5_matchByReplaces_83 ?_
          refine wm_iload C rfl dX5_matchByReplaces_84 ?_
          obtain ⟨φ23, hM24, h⟩ := h
          refine wm_cVI1 C vqX5_144 hM24 hk1 ⟨Nat.le_refl _, Nat.le_refl _⟩ (Nat.le_of_ble_eq_true rfl) ⟨Nat.le_of_ble_eq_true rfl, Nat.le_of_ble_eq_true rfl⟩ dX5_matchByReplaces_86 (fun r25 I26 hφ31 => ?_)
          replace h := h r25 I26 hφ31
          obtain ⟨φ32, hM33, h⟩ := h
          refine wm_cVR1 C vqX5_175 hM33 hk11 ⟨Nat.le_refl _, Nat.le_refl _⟩ (Nat.le_of_ble_eq_true rfl) ⟨Nat.le_of_ble_eq_true rfl, Nat.le_of_ble_eq_true rfl⟩ dX5_matchByReplaces_89 (fun r34 I35 hφ40 => ?_)
          replace h := h r34 I35 hφ40
          refine wm_astoreQ_n C (by decide) dX5_matchByReplaces_92 ?_
          refine wm_iload C rfl dX5_matchByReplaces_93 ?_
          refine wm_iconst C 1 dX5_matchByReplaces_95 ?_ (by decide)
          refine wm_iadd C dX5_matchByReplaces_96 ?_
          refine wm_istore_n C (by decide) dX5_matchByReplaces_97 ?_
          refine wm_iinc C (x4 + 1) rfl dX5_matchByReplaces_98 rfl (by decide) ?_
          refine wm_goto C 7 dX5_matchByReplaces_101 ?_ (by decide)
          exact wm_pick [0, 1, 2, 3, 4] rfl h
        · replace h := h.2 q
          refine wm_iload C rfl dX5_matchByReplaces_70 ?_
          exact wm_iret C hr rfl (Nat.le_of_ble_eq_true rfl) (Nat.le_of_ble_eq_true rfl) ⟨rfl, rfl, rfl, rfl, rfl, _, rfl, h⟩ dX5_matchByReplaces_72
      · replace h := h.2 q
        refine wm_goto C 98 dX5_matchByReplaces_47 ?_ (by decide)
        refine wm_iinc C (x4 + 1) rfl dX5_matchByReplaces_98 rfl (by decide) ?_
        refine wm_goto C 7 dX5_matchByReplaces_101 ?_ (by decide)
        exact wm_pick [0, 1, 2, 3, 4] rfl h
    · replace h := h.2 q
      refine wm_iconst C 1 dX5_matchByReplaces_25 ?_ (by decide)
      refine wm_goto C 30 dX5_matchByReplaces_26 ?_ (by decide)
      refine wm_istore C (by decide) dX5_matchByReplaces_30 ?_
      refine wm_iload C rfl dX5_matchByReplaces_32 ?_
      refine wm_if_ne C 50 dX5_matchByReplaces_34 (by decide) (fun _ => ?_) (fun q => absurd q (by decide))
      refine wm_aload_n C rfl dX5_matchByReplaces_50 ?_
      refine wm_aload_n C rfl dX5_matchByReplaces_51 ?_
      refine wm_iload_n C rfl dX5_matchByReplaces_52 ?_
      refine wm_iload C rfl dX5_matchByReplaces_53 ?_
      refine wm_aloadQ_n C rfl dX5_matchByReplaces_55 ?_
      refine wm_aload_n C rfl dX5_matchByReplaces_56 ?_
      obtain ⟨hk41, h⟩ := h
      obtain ⟨b42, hr43, h⟩ := h
      refine wm_getR C fqX5_37 hk41 hr43 dX5_matchByReplaces_57 ?_
      obtain ⟨φ44, hM45, h⟩ := h
      refine wm_cVI5 C vqX5_201 hM45 hk41 ⟨Nat.le_refl _, Nat.le_refl _⟩ (Nat.le_of_ble_eq_true rfl) ⟨Nat.le_of_ble_eq_true rfl, Nat.le_of_ble_eq_true rfl⟩ dX5_matchByReplaces_60 (fun r46 I47 hφ52 => ?_)
      replace h := h r46 I47 hφ52
      refine wm_istore C (by decide) dX5_matchByReplaces_63 ?_
      refine wm_iload C rfl dX5_matchByReplaces_65 ?_
      refine wm_if_eq C 73 dX5_matchByReplaces_67 (by decide) (fun q => ?_) (fun q => ?_)
      · replace h := h.1 q
        refine wm_iload C rfl dX5_matchByReplaces_73 ?_
        refine wm_if_eq C 82 dX5_matchByReplaces_75 (by decide) (fun q => absurd q (by decide)) (fun _ => ?_)
        refine wm_null C dX5_matchByReplaces_78 ?_
        refine wm_goto C 92 dX5_matchByReplaces_79 ?_ (by decide)
        refine wm_astoreN_n C (by decide) dX5_matchByReplaces_92 ?_
        refine wm_iload C rfl dX5_matchByReplaces_93 ?_
        refine wm_iconst C 1 dX5_matchByReplaces_95 ?_ (by decide)
        refine wm_iadd C dX5_matchByReplaces_96 ?_
        refine wm_istore_n C (by decide) dX5_matchByReplaces_97 ?_
        refine wm_iinc C (x4 + 1) rfl dX5_matchByReplaces_98 rfl (by decide) ?_
        refine wm_goto C 7 dX5_matchByReplaces_101 ?_ (by decide)
        exact wm_pick [0, 1, 2, 3, 4] rfl h
      · replace h := h.2 q
        refine wm_iload C rfl dX5_matchByReplaces_70 ?_
        exact wm_iret C hr rfl (Nat.le_of_ble_eq_true rfl) (Nat.le_of_ble_eq_true rfl) ⟨rfl, rfl, rfl, rfl, rfl, _, rfl, h⟩ dX5_matchByReplaces_72
set_option maxRecDepth 100000 in
set_option maxHeartbeats 4000000 in
theorem sX5_matchByReplaces {l : Launch} {G : Gx} {d : Nat} {K N : TK} {I : TI} {R : TR} {L : TL} {sz : Nat} {φ : Int32 → TI → Prop} {a0 : Nat} {a1 : Nat}
    (h : ∀ (p : Program) (e : Env) (s : State) (m : MethodId) (args : Array Value) (below : List Frame) (meth : Method) (c : Code), Cx p s m args meth c (AM K sz) G RX5 cX5_matchByReplaces 7 → meth.sig.returnType = (some .int) → (WI p l e s m args below meth c G (d + 1) φ K N R L sz 7 7 [(0, .ref a0), (1, .ref a1), (2, va_rf none), (3, .int 0), (4, .int 0)] I)) :
    MtI l G yX5_matchByReplaces cX5_matchByReplaces 7 (some .int) (d + 1) [.ref a0, .ref a1] K N I R L sz φ :=
  MetM.of (own := RX5) (by decide) rfl (catR (catR cat0)) (Nat.le_of_ble_eq_true rfl) (fun p e s m args below meth c C hr hnm => vX5_matchByReplaces_0 C hr (h p e s m args below meth c C hr))
set_option maxRecDepth 100000 in
set_option maxHeartbeats 4000000 in
theorem vX5_matchPart_0 {p : Program} {l : Launch} {e : Env} {s : State} {m : MethodId} {args : Array Value} {below : List Frame} {meth : Method} {c : Code} {G : Gx} {d : Nat} {K N : TK} {I : TI} {R : TR} {L : TL} {sz : Nat} {φ : Int32 → TI → Prop} (C : Cx p s m args meth c (AM K sz) G RX5 cX5_matchPart 8) (hr : meth.sig.returnType = (some .int)) {a0 : Nat} {a1 : Nat} {x2 : Int32} {x3 : Int32} {o4 : Option Nat} {a5 : Nat}
    (h : (WI p l e s m args below meth c G (d + 1) φ K N R L sz 8 6 [(0, .ref a0), (1, .ref a1), (3, .int x3), (4, va_rf o4), (5, .ref a5), (6, .int x2), (7, .int x2)] I)) :
    WI p l e s m args below meth c G (d + 1) φ K N R L sz 8 0 [(0, .ref a0), (1, .ref a1), (2, .int x2), (3, .int x3), (4, va_rf o4), (5, .ref a5)] I := by
  refine wm_iload_n C rfl dX5_matchPart_0 ?_
  refine wm_istore C (by decide) dX5_matchPart_1 ?_
  refine wm_iload_n C rfl dX5_matchPart_3 ?_
  refine wm_istore C (by decide) dX5_matchPart_4 ?_
  exact wm_pick [0, 1, 3, 4, 5, 6, 7] rfl h
set_option maxRecDepth 100000 in
set_option maxHeartbeats 4000000 in
theorem vX5_matchPart_6 {p : Program} {l : Launch} {e : Env} {s : State} {m : MethodId} {args : Array Value} {below : List Frame} {meth : Method} {c : Code} {G : Gx} {d : Nat} {K N : TK} {I : TI} {R : TR} {L : TL} {sz : Nat} {φ : Int32 → TI → Prop} (C : Cx p s m args meth c (AM K sz) G RX5 cX5_matchPart 8) (hr : meth.sig.returnType = (some .int)) {a0 : Nat} {a1 : Nat} {x3 : Int32} {o4 : Option Nat} {a5 : Nat} {x6 : Int32} {x7 : Int32}
    (h : ((x3 ≤ x7 → φ 0 I) ∧ (¬ x3 ≤ x7 → ((x6 ≤ x7 → K a0 = 16 ∧ ∃ φ2 : Int32 → TI → Prop, MtI l G yX5_matchAt cX5_matchAt 11 (some .int) d [.ref a0, .ref a1, .int x7, .int x3, va_rf o4, .ref a5] K N I R L sz φ2 ∧ ∀ (r4 : Int32) (I5 : TI), φ2 r4 I5 → ((0 ≤ r4 → (WI p l e s m args below meth c G (d + 1) φ K N R L sz 8 6 [(0, .ref a0), (1, .ref a1), (3, .int x3), (4, va_rf o4), (5, .ref a5), (6, .int r4), (7, .int (x7 + 1))] I5)) ∧ (¬ 0 ≤ r4 → φ r4 I5))) ∧ (¬ x6 ≤ x7 → (WI p l e s m args below meth c G (d + 1) φ K N R L sz 8 6 [(0, .ref a0), (1, .ref a1), (3, .int x3), (4, va_rf o4), (5, .ref a5), (6, .int x6), (7, .int (x7 + 1))] I)))))) :
    WI p l e s m args below meth c G (d + 1) φ K N R L sz 8 6 [(0, .ref a0), (1, .ref a1), (3, .int x3), (4, va_rf o4), (5, .ref a5), (6, .int x6), (7, .int x7)] I := by
  refine wm_iload C rfl dX5_matchPart_6 ?_
  refine wm_iload_n C rfl dX5_matchPart_8 ?_
  refine wm_icmp_ge C 50 dX5_matchPart_9 (by decide) (fun q => ?_) (fun q => ?_)
  · replace h := h.1 q
    refine wm_iconst C 0 dX5_matchPart_50 ?_ (by decide)
    exact wm_iret C hr rfl (Nat.le_of_ble_eq_true rfl) (Nat.le_of_ble_eq_true rfl) ⟨rfl, rfl, rfl, rfl, rfl, _, rfl, h⟩ dX5_matchPart_51
  · replace h := h.2 q
    refine wm_iload C rfl dX5_matchPart_12 ?_
    refine wm_iload C rfl dX5_matchPart_14 ?_
    refine wm_icmp_ge C 22 dX5_matchPart_16 (by decide) (fun q => ?_) (fun q => ?_)
    · replace h := h.1 q
      refine wm_aload_n C rfl dX5_matchPart_22 ?_
      refine wm_aload_n C rfl dX5_matchPart_23 ?_
      refine wm_iload C rfl dX5_matchPart_24 ?_
      refine wm_iload_n C rfl dX5_matchPart_26 ?_
      refine wm_aloadQ C rfl dX5_matchPart_27 ?_
      refine wm_aload C rfl dX5_matchPart_29 ?_
      obtain ⟨hk1, h⟩ := h
      obtain ⟨φ2, hM3, h⟩ := h
      refine wm_cVI5 C vqX5_213 hM3 hk1 ⟨Nat.le_refl _, Nat.le_refl _⟩ (Nat.le_of_ble_eq_true rfl) ⟨Nat.le_of_ble_eq_true rfl, Nat.le_of_ble_eq_true rfl⟩ dX5_matchPart_31 (fun r4 I5 hφ10 => ?_)
      replace h := h r4 I5 hφ10
      refine wm_istore C (by decide) dX5_matchPart_34 ?_
      refine wm_iload C rfl dX5_matchPart_36 ?_
      refine wm_if_ge C 44 dX5_matchPart_38 (by decide) (fun q => ?_) (fun q => ?_)
      · replace h := h.1 q
        refine wm_iinc C (x7 + 1) rfl dX5_matchPart_44 rfl (by decide) ?_
        refine wm_goto C 6 dX5_matchPart_47 ?_ (by decide)
        exact h
      · replace h := h.2 q
        refine wm_iload C rfl dX5_matchPart_41 ?_
        exact wm_iret C hr rfl (Nat.le_of_ble_eq_true rfl) (Nat.le_of_ble_eq_true rfl) ⟨rfl, rfl, rfl, rfl, rfl, _, rfl, h⟩ dX5_matchPart_43
    · replace h := h.2 q
      refine wm_goto C 44 dX5_matchPart_19 ?_ (by decide)
      refine wm_iinc C (x7 + 1) rfl dX5_matchPart_44 rfl (by decide) ?_
      refine wm_goto C 6 dX5_matchPart_47 ?_ (by decide)
      exact h
set_option maxRecDepth 100000 in
set_option maxHeartbeats 4000000 in
theorem sX5_matchPart {l : Launch} {G : Gx} {d : Nat} {K N : TK} {I : TI} {R : TR} {L : TL} {sz : Nat} {φ : Int32 → TI → Prop} {a0 : Nat} {a1 : Nat} {x2 : Int32} {x3 : Int32} {o4 : Option Nat} {a5 : Nat}
    (h : ∀ (p : Program) (e : Env) (s : State) (m : MethodId) (args : Array Value) (below : List Frame) (meth : Method) (c : Code), Cx p s m args meth c (AM K sz) G RX5 cX5_matchPart 8 → meth.sig.returnType = (some .int) → (WI p l e s m args below meth c G (d + 1) φ K N R L sz 8 6 [(0, .ref a0), (1, .ref a1), (3, .int x3), (4, va_rf o4), (5, .ref a5), (6, .int x2), (7, .int x2)] I)) :
    MtI l G yX5_matchPart cX5_matchPart 8 (some .int) (d + 1) [.ref a0, .ref a1, .int x2, .int x3, va_rf o4, .ref a5] K N I R L sz φ :=
  MetM.of (own := RX5) (by decide) rfl (catR (catR (catI (catI (catQ (catR cat0)))))) (Nat.le_of_ble_eq_true rfl) (fun p e s m args below meth c C hr hnm => vX5_matchPart_0 C hr (h p e s m args below meth c C hr))
set_option maxRecDepth 100000 in
set_option maxHeartbeats 4000000 in
theorem vX5_matchAt_0 {p : Program} {l : Launch} {e : Env} {s : State} {m : MethodId} {args : Array Value} {below : List Frame} {meth : Method} {c : Code} {G : Gx} {d : Nat} {K N : TK} {I : TI} {R : TR} {L : TL} {sz : Nat} {φ : Int32 → TI → Prop} (C : Cx p s m args meth c (AM K sz) G RX5 cX5_matchAt 11) (hr : meth.sig.returnType = (some .int)) {a0 : Nat} {a1 : Nat} {x2 : Int32} {x3 : Int32} {o4 : Option Nat} {a5 : Nat}
    (h : ((o4 = none → (WI p l e s m args below meth c G (d + 1) φ K N R L sz 11 27 [(0, .ref a0), (1, .ref a1), (2, .int x2), (3, .int x3), (4, va_rf none), (5, .ref a5), (6, .int 0), (7, .int 0)] I)) ∧ (∀ b1 : Nat, o4 = some b1 → K a1 = 12 ∧ ∃ φ3 : Int32 → TI → Prop, MtI l G yX1_code cX1_code 2 (some .int) d [.ref a1, .int x2] K N I R L sz φ3 ∧ ∀ (r5 : Int32) (I6 : TI), φ3 r5 I6 → ((0 < r5 → K b1 = 13 ∧ (WI p l e s m args below meth c G (d + 1) φ K N R L sz 11 27 [(0, .ref a0), (1, .ref a1), (2, .int x2), (3, .int x3), (4, va_rf (some b1)), (5, .ref a5), (6, .int (I6 b1 5)), (7, .int 0)] I6)) ∧ (¬ 0 < r5 → (WI p l e s m args below meth c G (d + 1) φ K N R L sz 11 27 [(0, .ref a0), (1, .ref a1), (2, .int x2), (3, .int x3), (4, va_rf (some b1)), (5, .ref a5), (6, .int 0), (7, .int 0)] I6)))))) :
    WI p l e s m args below meth c G (d + 1) φ K N R L sz 11 0 [(0, .ref a0), (1, .ref a1), (2, .int x2), (3, .int x3), (4, va_rf o4), (5, .ref a5)] I := by
  refine wm_aloadQ C rfl dX5_matchAt_0 ?_
  rcases o4 with _ | b1
  · replace h := h.1 rfl
    refine wm_ifnullN C 13 dX5_matchAt_2 ?_ (by decide)
    refine wm_iconst C 0 dX5_matchAt_13 ?_ (by decide)
    refine wm_goto C 22 dX5_matchAt_14 ?_ (by decide)
    refine wm_istore C (by decide) dX5_matchAt_22 ?_
    refine wm_iconst C 0 dX5_matchAt_24 ?_ (by decide)
    refine wm_istore C (by decide) dX5_matchAt_25 ?_
    exact h
  · replace h := h.2 b1 rfl
    refine wm_ifnull C dX5_matchAt_2 ?_
    refine wm_aload_n C rfl dX5_matchAt_5 ?_
    refine wm_iload_n C rfl dX5_matchAt_6 ?_
    obtain ⟨hk2, h⟩ := h
    obtain ⟨φ3, hM4, h⟩ := h
    refine wm_cVI1 C vqX5_144 hM4 hk2 ⟨Nat.le_refl _, Nat.le_refl _⟩ (Nat.le_of_ble_eq_true rfl) ⟨Nat.le_of_ble_eq_true rfl, Nat.le_of_ble_eq_true rfl⟩ dX5_matchAt_7 (fun r5 I6 hφ11 => ?_)
    replace h := h r5 I6 hφ11
    refine wm_if_gt C 17 dX5_matchAt_10 (by decide) (fun q => ?_) (fun q => ?_)
    · replace h := h.1 q
      refine wm_aload C rfl dX5_matchAt_17 ?_
      obtain ⟨hk12, h⟩ := h
      refine wm_getI C fqX5_82 hk12 dX5_matchAt_19 ?_
      refine wm_istore C (by decide) dX5_matchAt_22 ?_
      refine wm_iconst C 0 dX5_matchAt_24 ?_ (by decide)
      refine wm_istore C (by decide) dX5_matchAt_25 ?_
      exact h
    · replace h := h.2 q
      refine wm_iconst C 0 dX5_matchAt_13 ?_ (by decide)
      refine wm_goto C 22 dX5_matchAt_14 ?_ (by decide)
      refine wm_istore C (by decide) dX5_matchAt_22 ?_
      refine wm_iconst C 0 dX5_matchAt_24 ?_ (by decide)
      refine wm_istore C (by decide) dX5_matchAt_25 ?_
      exact h
set_option maxRecDepth 100000 in
set_option maxHeartbeats 4000000 in
theorem vX5_matchAt_27 {p : Program} {l : Launch} {e : Env} {s : State} {m : MethodId} {args : Array Value} {below : List Frame} {meth : Method} {c : Code} {G : Gx} {d : Nat} {K N : TK} {I : TI} {R : TR} {L : TL} {sz : Nat} {φ : Int32 → TI → Prop} (C : Cx p s m args meth c (AM K sz) G RX5 cX5_matchAt 11) (hr : meth.sig.returnType = (some .int)) {a0 : Nat} {a1 : Nat} {x2 : Int32} {x3 : Int32} {o4 : Option Nat} {a5 : Nat} {x6 : Int32} {x7 : Int32}
    (h : ((x6 ≤ x7 → K a5 = 12 ∧ ∃ φ2 : Int32 → TI → Prop, MtI l G yX1_addSame cX1_addSame 3 (some .boolean) d [.ref a5, .ref a1, .int x2] K N I R L sz φ2 ∧ ∀ (r4 : Int32) (I5 : TI), φ2 r4 I5 → ((r4 = 0 → φ (-3) I5) ∧ (¬ r4 = 0 → φ (x2 + 1) I5))) ∧ (¬ x6 ≤ x7 → ∃ b11 : Nat, o4 = some b11 ∧ K b11 = 13 ∧ ∃ φ13 : Option Nat → TI → Prop, MtR l G yX2_get cX2_get 2 (some (.object "CopyReplace$Phrase")) d [.ref b11, .int x7] K N I R L sz φ13 ∧ ∀ (r15 : Option Nat) (I16 : TI), φ13 r15 I16 → ((r15 = none → (((-1) ≤ x2 → (WI p l e s m args below meth c G (d + 1) φ K N R L sz 11 27 [(0, .ref a0), (1, .ref a1), (2, .int x2), (3, .int x3), (4, va_rf (some b11)), (5, .ref a5), (6, .int x6), (7, .int (x7 + 1))] I16)) ∧ (¬ (-1) ≤ x2 → K a0 = 16 ∧ ∀ I24 : TI, I24 = u2 I16 a0 12 ((I16 a0 12) + 1) → ∃ φ25 : Int32 → TI → Prop, MtI l G yX5_put cX5_put 5 (some .int) d [.null, .ref a1, .int x2, .ref a5] K N I24 R L sz φ25 ∧ ∀ (r27 : Int32) (I28 : TI), φ25 r27 I28 → ((¬ r27 = 0 → φ r27 I28) ∧ (r27 = 0 → φ (-1) I28))))) ∧ (∀ b22 : Nat, r15 = some b22 → ∃ φ34 : Int32 → TI → Prop, MtI l G yX5_behindMatch cX5_behindMatch 7 (some .int) d [.ref b22, .ref a1, .int x2, .int x3] K N I16 R L sz φ34 ∧ ∀ (r36 : Int32) (I37 : TI), φ34 r36 I37 → ((r36 ≤ x2 → (WI p l e s m args below meth c G (d + 1) φ K N R L sz 11 27 [(0, .ref a0), (1, .ref a1), (2, .int x2), (3, .int x3), (4, va_rf (some b11)), (5, .ref a5), (6, .int x6), (7, .int (x7 + 1))] I37)) ∧ (¬ r36 ≤ x2 → K a0 = 16 ∧ ∀ I44 : TI, I44 = u2 I37 a0 12 ((I37 a0 12) + 1) → ∃ φ45 : Int32 → TI → Prop, MtI l G yX5_put cX5_put 5 (some .int) d [.ref b22, .ref a1, .int x2, .ref a5] K N I44 R L sz φ45 ∧ ∀ (r47 : Int32) (I48 : TI), φ45 r47 I48 → ((¬ r47 = 0 → φ r47 I48) ∧ (r47 = 0 → φ r36 I48))))))))) :
    WI p l e s m args below meth c G (d + 1) φ K N R L sz 11 27 [(0, .ref a0), (1, .ref a1), (2, .int x2), (3, .int x3), (4, va_rf o4), (5, .ref a5), (6, .int x6), (7, .int x7)] I := by
  refine wm_iload C rfl dX5_matchAt_27 ?_
  refine wm_iload C rfl dX5_matchAt_29 ?_
  refine wm_icmp_ge C 108 dX5_matchAt_31 (by decide) (fun q => ?_) (fun q => ?_)
  · replace h := h.1 q
    refine wm_aload C rfl dX5_matchAt_108 ?_
    refine wm_aload_n C rfl dX5_matchAt_110 ?_
    refine wm_iload_n C rfl dX5_matchAt_111 ?_
    obtain ⟨hk1, h⟩ := h
    obtain ⟨φ2, hM3, h⟩ := h
    refine wm_cVI2 C vqX5_227 hM3 hk1 ⟨Nat.le_refl _, Nat.le_refl _⟩ (Nat.le_of_ble_eq_true rfl) ⟨Nat.le_of_ble_eq_true rfl, Nat.le_of_ble_eq_true rfl⟩ dX5_matchAt_112 (fun r4 I5 hφ10 => ?_)
    replace h := h r4 I5 hφ10
    refine wm_if_eq C 124 dX5_matchAt_115 (by decide) (fun q => ?_) (fun q => ?_)
    · replace h := h.1 q
      refine wm_bipush C (-3) dX5_matchAt_124 ?_ (by decide)
      exact wm_iret C hr rfl (Nat.le_of_ble_eq_true rfl) (Nat.le_of_ble_eq_true rfl) ⟨rfl, rfl, rfl, rfl, rfl, _, rfl, h⟩ dX5_matchAt_126
    · replace h := h.2 q
      refine wm_iload_n C rfl dX5_matchAt_118 ?_
      refine wm_iconst C 1 dX5_matchAt_119 ?_ (by decide)
      refine wm_iadd C dX5_matchAt_120 ?_
      refine wm_goto C 126 dX5_matchAt_121 ?_ (by decide)
      exact wm_iret C hr rfl (Nat.le_of_ble_eq_true rfl) (Nat.le_of_ble_eq_true rfl) ⟨rfl, rfl, rfl, rfl, rfl, _, rfl, h⟩ dX5_matchAt_126
  · replace h := h.2 q
    refine wm_aloadQ C rfl dX5_matchAt_34 ?_
    refine wm_iload C rfl dX5_matchAt_36 ?_
    obtain ⟨b11, hq, h⟩ := h
    subst hq
    obtain ⟨hk12, h⟩ := h
    obtain ⟨φ13, hM14, h⟩ := h
    refine wm_cVR1 C vqX5_216 hM14 hk12 ⟨Nat.le_refl _, Nat.le_refl _⟩ (Nat.le_of_ble_eq_true rfl) ⟨Nat.le_of_ble_eq_true rfl, Nat.le_of_ble_eq_true rfl⟩ dX5_matchAt_38 (fun r15 I16 hφ21 => ?_)
    replace h := h r15 I16 hφ21
    refine wm_astoreQ C (by decide) dX5_matchAt_41 ?_
    refine wm_aloadQ C rfl dX5_matchAt_43 ?_
    rcases r15 with _ | b22
    · replace h := h.1 rfl
      refine wm_ifnonnullN C dX5_matchAt_45 ?_
      refine wm_iconst C (-1) dX5_matchAt_48 ?_ (by decide)
      refine wm_goto C 60 dX5_matchAt_49 ?_ (by decide)
      refine wm_istore C (by decide) dX5_matchAt_60 ?_
      refine wm_iload C rfl dX5_matchAt_62 ?_
      refine wm_iload_n C rfl dX5_matchAt_64 ?_
      refine wm_icmp_le C 102 dX5_matchAt_65 (by decide) (fun q => ?_) (fun q => ?_)
      · replace h := h.1 q
        refine wm_iinc C (x7 + 1) rfl dX5_matchAt_102 rfl (by decide) ?_
        refine wm_goto C 27 dX5_matchAt_105 ?_ (by decide)
        exact wm_pick [0, 1, 2, 3, 4, 5, 6, 7] rfl h
      · replace h := h.2 q
        refine wm_aload_n C rfl dX5_matchAt_68 ?_
        refine wm_dup C rfl dX5_matchAt_69 ?_
        obtain ⟨hk23, h⟩ := h
        refine wm_getI C fqX5_123 hk23 dX5_matchAt_70 ?_
        refine wm_iconst C 1 dX5_matchAt_73 ?_ (by decide)
        refine wm_iadd C dX5_matchAt_74 ?_
        refine wm_putI C fqX5_123 hk23 dX5_matchAt_75 ?_
        refine nmI (fun I24 hI24 => ?_)
        replace h := h I24 hI24
        refine wm_aloadN C rfl dX5_matchAt_78 ?_
        refine wm_aload_n C rfl dX5_matchAt_80 ?_
        refine wm_iload_n C rfl dX5_matchAt_81 ?_
        refine wm_aload C rfl dX5_matchAt_82 ?_
        obtain ⟨φ25, hM26, h⟩ := h
        refine wm_cSI4 C sqX5_223 hM26 ⟨Nat.le_refl _, Nat.le_refl _⟩ (Nat.le_of_ble_eq_true rfl) ⟨Nat.le_of_ble_eq_true rfl, Nat.le_of_ble_eq_true rfl⟩ dX5_matchAt_84 (fun r27 I28 hφ33 => ?_)
        replace h := h r27 I28 hφ33
        refine wm_istore C (by decide) dX5_matchAt_87 ?_
        refine wm_iload C rfl dX5_matchAt_89 ?_
        refine wm_if_ne C 99 dX5_matchAt_91 (by decide) (fun q => ?_) (fun q => ?_)
        · replace h := h.1 q
          refine wm_iload C rfl dX5_matchAt_99 ?_
          exact wm_iret C hr rfl (Nat.le_of_ble_eq_true rfl) (Nat.le_of_ble_eq_true rfl) ⟨rfl, rfl, rfl, rfl, rfl, _, rfl, h⟩ dX5_matchAt_101
        · replace h := h.2 q
          refine wm_iload C rfl dX5_matchAt_94 ?_
          refine wm_goto C 101 dX5_matchAt_96 ?_ (by decide)
          exact wm_iret C hr rfl (Nat.le_of_ble_eq_true rfl) (Nat.le_of_ble_eq_true rfl) ⟨rfl, rfl, rfl, rfl, rfl, _, rfl, h⟩ dX5_matchAt_101
    · replace h := h.2 b22 rfl
      refine wm_ifnonnull C 52 dX5_matchAt_45 ?_ (by decide)
      refine wm_aload C rfl dX5_matchAt_52 ?_
      refine wm_aload_n C rfl dX5_matchAt_54 ?_
      refine wm_iload_n C rfl dX5_matchAt_55 ?_
      refine wm_iload_n C rfl dX5_matchAt_56 ?_
      obtain ⟨φ34, hM35, h⟩ := h
      refine wm_cSI4 C sqX5_219 hM35 ⟨Nat.le_refl _, Nat.le_refl _⟩ (Nat.le_of_ble_eq_true rfl) ⟨Nat.le_of_ble_eq_true rfl, Nat.le_of_ble_eq_true rfl⟩ dX5_matchAt_57 (fun r36 I37 hφ42 => ?_)
      replace h := h r36 I37 hφ42
      refine wm_istore C (by decide) dX5_matchAt_60 ?_
      refine wm_iload C rfl dX5_matchAt_62 ?_
      refine wm_iload_n C rfl dX5_matchAt_64 ?_
      refine wm_icmp_le C 102 dX5_matchAt_65 (by decide) (fun q => ?_) (fun q => ?_)
      · replace h := h.1 q
        refine wm_iinc C (x7 + 1) rfl dX5_matchAt_102 rfl (by decide) ?_
        refine wm_goto C 27 dX5_matchAt_105 ?_ (by decide)
        exact wm_pick [0, 1, 2, 3, 4, 5, 6, 7] rfl h
      · replace h := h.2 q
        refine wm_aload_n C rfl dX5_matchAt_68 ?_
        refine wm_dup C rfl dX5_matchAt_69 ?_
        obtain ⟨hk43, h⟩ := h
        refine wm_getI C fqX5_123 hk43 dX5_matchAt_70 ?_
        refine wm_iconst C 1 dX5_matchAt_73 ?_ (by decide)
        refine wm_iadd C dX5_matchAt_74 ?_
        refine wm_putI C fqX5_123 hk43 dX5_matchAt_75 ?_
        refine nmI (fun I44 hI44 => ?_)
        replace h := h I44 hI44
        refine wm_aload C rfl dX5_matchAt_78 ?_
        refine wm_aload_n C rfl dX5_matchAt_80 ?_
        refine wm_iload_n C rfl dX5_matchAt_81 ?_
        refine wm_aload C rfl dX5_matchAt_82 ?_
        obtain ⟨φ45, hM46, h⟩ := h
        refine wm_cSI4 C sqX5_223 hM46 ⟨Nat.le_refl _, Nat.le_refl _⟩ (Nat.le_of_ble_eq_true rfl) ⟨Nat.le_of_ble_eq_true rfl, Nat.le_of_ble_eq_true rfl⟩ dX5_matchAt_84 (fun r47 I48 hφ53 => ?_)
        replace h := h r47 I48 hφ53
        refine wm_istore C (by decide) dX5_matchAt_87 ?_
        refine wm_iload C rfl dX5_matchAt_89 ?_
        refine wm_if_ne C 99 dX5_matchAt_91 (by decide) (fun q => ?_) (fun q => ?_)
        · replace h := h.1 q
          refine wm_iload C rfl dX5_matchAt_99 ?_
          exact wm_iret C hr rfl (Nat.le_of_ble_eq_true rfl) (Nat.le_of_ble_eq_true rfl) ⟨rfl, rfl, rfl, rfl, rfl, _, rfl, h⟩ dX5_matchAt_101
        · replace h := h.2 q
          refine wm_iload C rfl dX5_matchAt_94 ?_
          refine wm_goto C 101 dX5_matchAt_96 ?_ (by decide)
          exact wm_iret C hr rfl (Nat.le_of_ble_eq_true rfl) (Nat.le_of_ble_eq_true rfl) ⟨rfl, rfl, rfl, rfl, rfl, _, rfl, h⟩ dX5_matchAt_101
set_option maxRecDepth 100000 in
set_option maxHeartbeats 4000000 in
theorem sX5_matchAt {l : Launch} {G : Gx} {d : Nat} {K N : TK} {I : TI} {R : TR} {L : TL} {sz : Nat} {φ : Int32 → TI → Prop} {a0 : Nat} {a1 : Nat} {x2 : Int32} {x3 : Int32} {o4 : Option Nat} {a5 : Nat}
    (h : ∀ (p : Program) (e : Env) (s : State) (m : MethodId) (args : Array Value) (below : List Frame) (meth : Method) (c : Code), Cx p s m args meth c (AM K sz) G RX5 cX5_matchAt 11 → meth.sig.returnType = (some .int) → ((o4 = none → (WI p l e s m args below meth c G (d + 1) φ K N R L sz 11 27 [(0, .ref a0), (1, .ref a1), (2, .int x2), (3, .int x3), (4, va_rf none), (5, .ref a5), (6, .int 0), (7, .int 0)] I)) ∧ (∀ b1 : Nat, o4 = some b1 → K a1 = 12 ∧ ∃ φ3 : Int32 → TI → Prop, MtI l G yX1_code cX1_code 2 (some .int) d [.ref a1, .int x2] K N I R L sz φ3 ∧ ∀ (r5 : Int32) (I6 : TI), φ3 r5 I6 → ((0 < r5 → K b1 = 13 ∧ (WI p l e s m args below meth c G (d + 1) φ K N R L sz 11 27 [(0, .ref a0), (1, .ref a1), (2, .int x2), (3, .int x3), (4, va_rf (some b1)), (5, .ref a5), (6, .int (I6 b1 5)), (7, .int 0)] I6)) ∧ (¬ 0 < r5 → (WI p l e s m args below meth c G (d + 1) φ K N R L sz 11 27 [(0, .ref a0), (1, .ref a1), (2, .int x2), (3, .int x3), (4, va_rf (some b1)), (5, .ref a5), (6, .int 0), (7, .int 0)] I6)))))) :
    MtI l G yX5_matchAt cX5_matchAt 11 (some .int) (d + 1) [.ref a0, .ref a1, .int x2, .int x3, va_rf o4, .ref a5] K N I R L sz φ :=
  MetM.of (own := RX5) (by decide) rfl (catR (catR (catI (catI (catQ (catR cat0)))))) (Nat.le_of_ble_eq_true rfl) (fun p e s m args below meth c C hr hnm => vX5_matchAt_0 C hr (h p e s m args below meth c C hr))
set_option maxRecDepth 100000 in
set_option maxHeartbeats 4000000 in
theorem vX5_behindMatch_0 {p : Program} {l : Launch} {e : Env} {s : State} {m : MethodId} {args : Array Value} {below : List Frame} {meth : Method} {c : Code} {G : Gx} {d : Nat} {K N : TK} {I : TI} {R : TR} {L : TL} {sz : Nat} {φ : Int32 → TI → Prop} (C : Cx p s m args meth c (AM K sz) G RX5 cX5_behindMatch 7) (hr : meth.sig.returnType = (some .int)) {a0 : Nat} {a1 : Nat} {x2 : Int32} {x3 : Int32}
    (h : K a0 = 11 ∧ (((I a0 1) = 0 → (WI p l e s m args below meth c G (d + 1) φ K N R L sz 7 33 [(0, .ref a0), (1, .ref a1), (3, .int x3), (4, .int 0), (5, .int x2)] I)) ∧ (¬ (I a0 1) = 0 → K a1 = 12 ∧ ∃ φ3 : Int32 → TI → Prop, MtI l G yX1_code cX1_code 2 (some .int) d [.ref a1, .int x2] K N I R L sz φ3 ∧ ∀ (r5 : Int32) (I6 : TI), φ3 r5 I6 → ∃ φ12 : Int32 → TI → Prop, MtI l G yX5_hasPart cX5_hasPart 4 (some .boolean) d [.int r5, .ref a0] K N I6 R L sz φ12 ∧ ∀ (r14 : Int32) (I15 : TI), φ12 r14 I15 → ((r14 = 0 → φ (-1) I15) ∧ (¬ r14 = 0 → φ (x2 + 1) I15))))) :
    WI p l e s m args below meth c G (d + 1) φ K N R L sz 7 0 [(0, .ref a0), (1, .ref a1), (2, .int x2), (3, .int x3)] I := by
  refine wm_aload_n C rfl dX5_behindMatch_0 ?_
  obtain ⟨hk1, h⟩ := h
  refine wm_getI C fqX5_103 hk1 dX5_behindMatch_1 ?_
  refine wm_if_eq C 27 dX5_behindMatch_4 (by decide) (fun q => ?_) (fun q => ?_)
  · replace h := h.1 q
    refine wm_iconst C 0 dX5_behindMatch_27 ?_ (by decide)
    refine wm_istore C (by decide) dX5_behindMatch_28 ?_
    refine wm_iload_n C rfl dX5_behindMatch_30 ?_
    refine wm_istore C (by decide) dX5_behindMatch_31 ?_
    exact wm_pick [0, 1, 3, 4, 5] rfl h
  · replace h := h.2 q
    refine wm_aload_n C rfl dX5_behindMatch_7 ?_
    refine wm_iload_n C rfl dX5_behindMatch_8 ?_
    obtain ⟨hk2, h⟩ := h
    obtain ⟨φ3, hM4, h⟩ := h
    refine wm_cVI1 C vqX5_144 hM4 hk2 ⟨Nat.le_refl _, Nat.le_refl _⟩ (Nat.le_of_ble_eq_true rfl) ⟨Nat.le_of_ble_eq_true rfl, Nat.le_of_ble_eq_true rfl⟩ dX5_behindMatch_9 (fun r5 I6 hφ11 => ?_)
    replace h := h r5 I6 hφ11
    refine wm_aload_n C rfl dX5_behindMatch_12 ?_
    obtain ⟨φ12, hM13, h⟩ := h
    refine wm_cSI2 C sqX5_231 hM13 ⟨Nat.le_refl _, Nat.le_refl _⟩ (Nat.le_of_ble_eq_true rfl) ⟨Nat.le_of_ble_eq_true rfl, Nat.le_of_ble_eq_true rfl⟩ dX5_behindMatch_13 (fun r14 I15 hφ20 => ?_)
    replace h := h r14 I15 hφ20
    refine wm_if_eq C 25 dX5_behindMatch_16 (by decide) (fun q => ?_) (fun q => ?_)
    · replace h := h.1 q
      refine wm_iconst C (-1) dX5_behindMatch_25 ?_ (by decide)
      exact wm_iret C hr rfl (Nat.le_of_ble_eq_true rfl) (Nat.le_of_ble_eq_true rfl) ⟨rfl, rfl, rfl, rfl, rfl, _, rfl, h⟩ dX5_behindMatch_26
    · replace h := h.2 q
      refine wm_iload_n C rfl dX5_behindMatch_19 ?_
      refine wm_iconst C 1 dX5_behindMatch_20 ?_ (by decide)
      refine wm_iadd C dX5_behindMatch_21 ?_
      refine wm_goto C 26 dX5_behindMatch_22 ?_ (by decide)
      exact wm_iret C hr rfl (Nat.le_of_ble_eq_true rfl) (Nat.le_of_ble_eq_true rfl) ⟨rfl, rfl, rfl, rfl, rfl, _, rfl, h⟩ dX5_behindMatch_26
set_option maxRecDepth 100000 in
set_option maxHeartbeats 4000000 in
theorem vX5_behindMatch_33 {p : Program} {l : Launch} {e : Env} {s : State} {m : MethodId} {args : Array Value} {below : List Frame} {meth : Method} {c : Code} {G : Gx} {d : Nat} {K N : TK} {I : TI} {R : TR} {L : TL} {sz : Nat} {φ : Int32 → TI → Prop} (C : Cx p s m args meth c (AM K sz) G RX5 cX5_behindMatch 7) (hr : meth.sig.returnType = (some .int)) {a0 : Nat} {a1 : Nat} {x3 : Int32} {x4 : Int32} {x5 : Int32}
    (h : ((x3 ≤ x5 → φ (-1) I) ∧ (¬ x3 ≤ x5 → K a1 = 12 ∧ ∃ φ2 : Int32 → TI → Prop, MtI l G yX1_code cX1_code 2 (some .int) d [.ref a1, .int x5] K N I R L sz φ2 ∧ ∀ (r4 : Int32) (I5 : TI), φ2 r4 I5 → ((r4 = 0 → (WI p l e s m args below meth c G (d + 1) φ K N R L sz 7 33 [(0, .ref a0), (1, .ref a1), (3, .int x3), (4, .int x4), (5, .int (x5 + 1))] I5)) ∧ (¬ r4 = 0 → ((¬ r4 = (-1) → K a0 = 11 ∧ ∃ b12, R a0 2 = some b12 ∧ K b12 = 15 ∧ ∃ φ15 : Int32 → TI → Prop, MtI l G yX4_get cX4_get 2 (some .int) d [.ref b12, .int x4] K N I5 R L sz φ15 ∧ ∀ (r17 : Int32) (I18 : TI), φ15 r17 I18 → ((r4 = r17 → ((¬ (x4 + 1) = (I18 b12 1) → (WI p l e s m args below meth c G (d + 1) φ K N R L sz 7 33 [(0, .ref a0), (1, .ref a1), (3, .int x3), (4, .int (x4 + 1)), (5, .int (x5 + 1))] I18)) ∧ ((x4 + 1) = (I18 b12 1) → φ (x5 + 1) I18))) ∧ (¬ r4 = r17 → φ (-1) I18))) ∧ (r4 = (-1) → (WI p l e s m args below meth c G (d + 1) φ K N R L sz 7 33 [(0, .ref a0), (1, .ref a1), (3, .int x3), (4, .int x4), (5, .int (x5 + 1))] I5)))))))) :
    WI p l e s m args below meth c G (d + 1) φ K N R L sz 7 33 [(0, .ref a0), (1, .ref a1), (3, .int x3), (4, .int x4), (5, .int x5)] I := by
  refine wm_iload C rfl dX5_behindMatch_33 ?_
  refine wm_iload_n C rfl dX5_behindMatch_35 ?_
  refine wm_icmp_ge C 103 dX5_behindMatch_36 (by decide) (fun q => ?_) (fun q => ?_)
  · replace h := h.1 q
    refine wm_iconst C (-1) dX5_behindMatch_103 ?_ (by decide)
    exact wm_iret C hr rfl (Nat.le_of_ble_eq_true rfl) (Nat.le_of_ble_eq_true rfl) ⟨rfl, rfl, rfl, rfl, rfl, _, rfl, h⟩ dX5_behindMatch_104
  · replace h := h.2 q
    refine wm_aload_n C rfl dX5_behindMatch_39 ?_
    refine wm_iload C rfl dX5_behindMatch_40 ?_
    obtain ⟨hk1, h⟩ := h
    obtain ⟨φ2, hM3, h⟩ := h
    refine wm_cVI1 C vqX5_144 hM3 hk1 ⟨Nat.le_refl _, Nat.le_refl _⟩ (Nat.le_of_ble_eq_true rfl) ⟨Nat.le_of_ble_eq_true rfl, Nat.le_of_ble_eq_true rfl⟩ dX5_behindMatch_42 (fun r4 I5 hφ10 => ?_)
    replace h := h r4 I5 hφ10
    refine wm_istore C (by decide) dX5_behindMatch_45 ?_
    refine wm_iload C rfl dX5_behindMatch_47 ?_
    refine wm_if_eq C 97 dX5_behindMatch_49 (by decide) (fun q => ?_) (fun q => ?_)
    · replace h := h.1 q
      refine wm_iinc C (x5 + 1) rfl dX5_behindMatch_97 rfl (by decide) ?_
      refine wm_goto C 33 dX5_behindMatch_100 ?_ (by decide)
      exact wm_pick [0, 1, 2, 3, 4] rfl h
    · replace h := h.2 q
      refine wm_iload C rfl dX5_behindMatch_52 ?_
      refine wm_iconst C (-1) dX5_behindMatch_54 ?_ (by decide)
      refine wm_icmp_ne C 61 dX5_behindMatch_55 (by decide) (fun q => ?_) (fun q => ?_)
      · replace h := h.1 q
        refine wm_iload C rfl dX5_behindMatch_61 ?_
        refine wm_aload_n C rfl dX5_behindMatch_63 ?_
        obtain ⟨hk11, h⟩ := h
        obtain ⟨b12, hr13, h⟩ := h
        refine wm_getR C fqX5_84 hk11 hr13 dX5_behindMatch_64 ?_
        refine wm_iload C rfl dX5_behindMatch_67 ?_
        obtain ⟨hk14, h⟩ := h
        obtain ⟨φ15, hM16, h⟩ := h
        refine wm_cVI1 C vqX5_235 hM16 hk14 ⟨Nat.le_refl _, Nat.le_refl _⟩ (Nat.le_of_ble_eq_true rfl) ⟨Nat.le_of_ble_eq_true rfl, Nat.le_of_ble_eq_true rfl⟩ dX5_behindMatch_69 (fun r17 I18 hφ23 => ?_)
        replace h := h r17 I18 hφ23
        refine wm_icmp_eq C 77 dX5_behindMatch_72 (by decide) (fun q => ?_) (fun q => ?_)
        · replace h := h.1 q
          refine wm_iinc C (x4 + 1) rfl dX5_behindMatch_77 rfl (by decide) ?_
          refine wm_iload C rfl dX5_behindMatch_80 ?_
          refine wm_aload_n C rfl dX5_behindMatch_82 ?_
          refine wm_getR C fqX5_84 hk11 hr13 dX5_behindMatch_83 ?_
          refine wm_getI C fqX5_110 hk14 dX5_behindMatch_86 ?_
          refine wm_icmp_ne C 97 dX5_behindMatch_89 (by decide) (fun q => ?_) (fun q => ?_)
          · replace h := h.1 q
            refine wm_iinc C (x5 + 1) rfl dX5_behindMatch_97 rfl (by decide) ?_
            refine wm_goto C 33 dX5_behindMatch_100 ?_ (by decide)
            exact wm_pick [0, 1, 2, 3, 4] rfl h
          · replace h := h.2 q
            refine wm_iload C rfl dX5_behindMatch_92 ?_
            refine wm_iconst C 1 dX5_behindMatch_94 ?_ (by decide)
            refine wm_iadd C dX5_behindMatch_95 ?_
            exact wm_iret C hr rfl (Nat.le_of_ble_eq_true rfl) (Nat.le_of_ble_eq_true rfl) ⟨rfl, rfl, rfl, rfl, rfl, _, rfl, h⟩ dX5_behindMatch_96
        · replace h := h.2 q
          refine wm_iconst C (-1) dX5_behindMatch_75 ?_ (by decide)
          exact wm_iret C hr rfl (Nat.le_of_ble_eq_true rfl) (Nat.le_of_ble_eq_true rfl) ⟨rfl, rfl, rfl, rfl, rfl, _, rfl, h⟩ dX5_behindMatch_76
      · replace h := h.2 q
        refine wm_goto C 97 dX5_behindMatch_58 ?_ (by decide)
        refine wm_iinc C (x5 + 1) rfl dX5_behindMatch_97 rfl (by decide) ?_
        refine wm_goto C 33 dX5_behindMatch_100 ?_ (by decide)
        exact wm_pick [0, 1, 2, 3, 4] rfl h
set_option maxRecDepth 100000 in
set_option maxHeartbeats 4000000 in
theorem sX5_behindMatch {l : Launch} {G : Gx} {d : Nat} {K N : TK} {I : TI} {R : TR} {L : TL} {sz : Nat} {φ : Int32 → TI → Prop} {a0 : Nat} {a1 : Nat} {x2 : Int32} {x3 : Int32}
    (h : ∀ (p : Program) (e : Env) (s : State) (m : MethodId) (args : Array Value) (below : List Frame) (meth : Method) (c : Code), Cx p s m args meth c (AM K sz) G RX5 cX5_behindMatch 7 → meth.sig.returnType = (some .int) → K a0 = 11 ∧ (((I a0 1) = 0 → (WI p l e s m args below meth c G (d + 1) φ K N R L sz 7 33 [(0, .ref a0), (1, .ref a1), (3, .int x3), (4, .int 0), (5, .int x2)] I)) ∧ (¬ (I a0 1) = 0 → K a1 = 12 ∧ ∃ φ3 : Int32 → TI → Prop, MtI l G yX1_code cX1_code 2 (some .int) d [.ref a1, .int x2] K N I R L sz φ3 ∧ ∀ (r5 : Int32) (I6 : TI), φ3 r5 I6 → ∃ φ12 : Int32 → TI → Prop, MtI l G yX5_hasPart cX5_hasPart 4 (some .boolean) d [.int r5, .ref a0] K N I6 R L sz φ12 ∧ ∀ (r14 : Int32) (I15 : TI), φ12 r14 I15 → ((r14 = 0 → φ (-1) I15) ∧ (¬ r14 = 0 → φ (x2 + 1) I15))))) :
    MtI l G yX5_behindMatch cX5_behindMatch 7 (some .int) (d + 1) [.ref a0, .ref a1, .int x2, .int x3] K N I R L sz φ :=
  MetM.of (own := RX5) (by decide) rfl (catR (catR (catI (catI cat0)))) (Nat.le_of_ble_eq_true rfl) (fun p e s m args below meth c C hr hnm => vX5_behindMatch_0 C hr (h p e s m args below meth c C hr))
set_option maxRecDepth 100000 in
set_option maxHeartbeats 4000000 in
theorem vX5_put_0 {p : Program} {l : Launch} {e : Env} {s : State} {m : MethodId} {args : Array Value} {below : List Frame} {meth : Method} {c : Code} {G : Gx} {d : Nat} {K N : TK} {I : TI} {R : TR} {L : TL} {sz : Nat} {φ : Int32 → TI → Prop} (C : Cx p s m args meth c (AM K sz) G RX5 cX5_put 5) (hr : meth.sig.returnType = (some .int)) {a0 : Nat} {a1 : Nat} {x2 : Int32} {a3 : Nat}
    (h : K a0 = 11 ∧ (((I a0 1) = 0 → (WI p l e s m args below meth c G (d + 1) φ K N R L sz 5 51 [(0, .ref a0), (1, .ref a1), (2, .int x2), (3, .ref a3), (4, .int 0)] I)) ∧ (¬ (I a0 1) = 0 → K a1 = 12 ∧ ∃ φ3 : Int32 → TI → Prop, MtI l G yX1_code cX1_code 2 (some .int) d [.ref a1, .int x2] K N I R L sz φ3 ∧ ∀ (r5 : Int32) (I6 : TI), φ3 r5 I6 → ∃ φ12 : Int32 → TI → Prop, MtI l G yX5_withPartChanged cX5_withPartChanged 5 (some .int) d [.int r5, .ref a0] K N I6 R L sz φ12 ∧ ∀ (r14 : Int32) (I15 : TI), φ12 r14 I15 → ((0 ≤ r14 → K a3 = 12 ∧ ∃ φ22 : Int32 → TI → Prop, MtI l G yX1_addPut cX1_addPut 6 (some .boolean) d [.ref a3, .int r14, .int (I15 a0 0), .ref a1, .int x2] K N I15 R L sz φ22 ∧ ∀ (r24 : Int32) (I25 : TI), φ22 r24 I25 → ((r24 = 0 → φ (-3) I25) ∧ (¬ r24 = 0 → φ 0 I25))) ∧ (¬ 0 ≤ r14 → φ r14 I15))))) :
    WI p l e s m args below meth c G (d + 1) φ K N R L sz 5 0 [(0, .ref a0), (1, .ref a1), (2, .int x2), (3, .ref a3)] I := by
  refine wm_aload_n C rfl dX5_put_0 ?_
  obtain ⟨hk1, h⟩ := h
  refine wm_getI C fqX5_103 hk1 dX5_put_1 ?_
  refine wm_if_eq C 48 dX5_put_4 (by decide) (fun q => ?_) (fun q => ?_)
  · replace h := h.1 q
    refine wm_iconst C 0 dX5_put_48 ?_ (by decide)
    refine wm_istore C (by decide) dX5_put_49 ?_
    exact h
  · replace h := h.2 q
    refine wm_aload_n C rfl dX5_put_7 ?_
    refine wm_iload_n C rfl dX5_put_8 ?_
    obtain ⟨hk2, h⟩ := h
    obtain ⟨φ3, hM4, h⟩ := h
    refine wm_cVI1 C vqX5_144 hM4 hk2 ⟨Nat.le_refl _, Nat.le_refl _⟩ (Nat.le_of_ble_eq_true rfl) ⟨Nat.le_of_ble_eq_true rfl, Nat.le_of_ble_eq_true rfl⟩ dX5_put_9 (fun r5 I6 hφ11 => ?_)
    replace h := h r5 I6 hφ11
    refine wm_aload_n C rfl dX5_put_12 ?_
    obtain ⟨φ12, hM13, h⟩ := h
    refine wm_cSI2 C sqX5_237 hM13 ⟨Nat.le_refl _, Nat.le_refl _⟩ (Nat.le_of_ble_eq_true rfl) ⟨Nat.le_of_ble_eq_true rfl, Nat.le_of_ble_eq_true rfl⟩ dX5_put_13 (fun r14 I15 hφ20 => ?_)
    replace h := h r14 I15 hφ20
    refine wm_istore C (by decide) dX5_put_16 ?_
    refine wm_iload C rfl dX5_put_18 ?_
    refine wm_if_ge C 26 dX5_put_20 (by decide) (fun q => ?_) (fun q => ?_)
    · replace h := h.1 q
      refine wm_aload_n C rfl dX5_put_26 ?_
      refine wm_iload C rfl dX5_put_27 ?_
      refine wm_aload_n C rfl dX5_put_29 ?_
      refine wm_getI C fqX5_96 hk1 dX5_put_30 ?_
      refine wm_aload_n C rfl dX5_put_33 ?_
      refine wm_iload_n C rfl dX5_put_34 ?_
      obtain ⟨hk21, h⟩ := h
      obtain ⟨φ22, hM23, h⟩ := h
      refine wm_cVI4 C vqX5_241 hM23 hk21 ⟨Nat.le_refl _, Nat.le_refl _⟩ (Nat.le_of_ble_eq_true rfl) ⟨Nat.le_of_ble_eq_true rfl, Nat.le_of_ble_eq_true rfl⟩ dX5_put_35 (fun r24 I25 hφ30 => ?_)
      replace h := h r24 I25 hφ30
      refine wm_if_eq C 45 dX5_put_38 (by decide) (fun q => ?_) (fun q => ?_)
      · replace h := h.1 q
        refine wm_bipush C (-3) dX5_put_45 ?_ (by decide)
        exact wm_iret C hr rfl (Nat.le_of_ble_eq_true rfl) (Nat.le_of_ble_eq_true rfl) ⟨rfl, rfl, rfl, rfl, rfl, _, rfl, h⟩ dX5_put_47
      · replace h := h.2 q
        refine wm_iconst C 0 dX5_put_41 ?_ (by decide)
        refine wm_goto C 47 dX5_put_42 ?_ (by decide)
        exact wm_iret C hr rfl (Nat.le_of_ble_eq_true rfl) (Nat.le_of_ble_eq_true rfl) ⟨rfl, rfl, rfl, rfl, rfl, _, rfl, h⟩ dX5_put_47
    · replace h := h.2 q
      refine wm_iload C rfl dX5_put_23 ?_
      exact wm_iret C hr rfl (Nat.le_of_ble_eq_true rfl) (Nat.le_of_ble_eq_true rfl) ⟨rfl, rfl, rfl, rfl, rfl, _, rfl, h⟩ dX5_put_25
set_option maxRecDepth 100000 in
set_option maxHeartbeats 4000000 in
theorem vX5_put_51 {p : Program} {l : Launch} {e : Env} {s : State} {m : MethodId} {args : Array Value} {below : List Frame} {meth : Method} {c : Code} {G : Gx} {d : Nat} {K N : TK} {I : TI} {R : TR} {L : TL} {sz : Nat} {φ : Int32 → TI → Prop} (C : Cx p s m args meth c (AM K sz) G RX5 cX5_put 5) (hr : meth.sig.returnType = (some .int)) {a0 : Nat} {a1 : Nat} {x2 : Int32} {a3 : Nat} {x4 : Int32}
    (h : K a0 = 11 ∧ ∃ b2, R a0 3 = some b2 ∧ K b2 = 15 ∧ (((I b2 1) ≤ x4 → φ 0 I) ∧ (¬ (I b2 1) ≤ x4 → ∃ φ5 : Int32 → TI → Prop, MtI l G yX4_get cX4_get 2 (some .int) d [.ref b2, .int x4] K N I R L sz φ5 ∧ ∀ (r7 : Int32) (I8 : TI), φ5 r7 I8 → K a3 = 12 ∧ ∃ φ15 : Int32 → TI → Prop, MtI l G yX1_addPut cX1_addPut 6 (some .boolean) d [.ref a3, .int r7, .int (I8 a0 0), .ref a1, .int x2] K N I8 R L sz φ15 ∧ ∀ (r17 : Int32) (I18 : TI), φ15 r17 I18 → ((¬ r17 = 0 → (WI p l e s m args below meth c G (d + 1) φ K N R L sz 5 51 [(0, .ref a0), (1, .ref a1), (2, .int x2), (3, .ref a3), (4, .int (x4 + 1))] I18)) ∧ (r17 = 0 → φ (-3) I18))))) :
    WI p l e s m args below meth c G (d + 1) φ K N R L sz 5 51 [(0, .ref a0), (1, .ref a1), (2, .int x2), (3, .ref a3), (4, .int x4)] I := by
  refine wm_iload C rfl dX5_put_51 ?_
  refine wm_aload_n C rfl dX5_put_53 ?_
  obtain ⟨hk1, h⟩ := h
  obtain ⟨b2, hr3, h⟩ := h
  refine wm_getR C fqX5_111 hk1 hr3 dX5_put_54 ?_
  obtain ⟨hk4, h⟩ := h
  refine wm_getI C fqX5_110 hk4 dX5_put_57 ?_
  refine wm_icmp_ge C 94 dX5_put_60 (by decide) (fun q => ?_) (fun q => ?_)
  · replace h := h.1 q
    refine wm_iconst C 0 dX5_put_94 ?_ (by decide)
    exact wm_iret C hr rfl (Nat.le_of_ble_eq_true rfl) (Nat.le_of_ble_eq_true rfl) ⟨rfl, rfl, rfl, rfl, rfl, _, rfl, h⟩ dX5_put_95
  · replace h := h.2 q
    refine wm_aload_n C rfl dX5_put_63 ?_
    refine wm_aload_n C rfl dX5_put_64 ?_
    refine wm_getR C fqX5_111 hk1 hr3 dX5_put_65 ?_
    refine wm_iload C rfl dX5_put_68 ?_
    obtain ⟨φ5, hM6, h⟩ := h
    refine wm_cVI1 C vqX5_235 hM6 hk4 ⟨Nat.le_refl _, Nat.le_refl _⟩ (Nat.le_of_ble_eq_true rfl) ⟨Nat.le_of_ble_eq_true rfl, Nat.le_of_ble_eq_true rfl⟩ dX5_put_70 (fun r7 I8 hφ13 => ?_)
    replace h := h r7 I8 hφ13
    refine wm_aload_n C rfl dX5_put_73 ?_
    refine wm_getI C fqX5_96 hk1 dX5_put_74 ?_
    refine wm_aload_n C rfl dX5_put_77 ?_
    refine wm_iload_n C rfl dX5_put_78 ?_
    obtain ⟨hk14, h⟩ := h
    obtain ⟨φ15, hM16, h⟩ := h
    refine wm_cVI4 C vqX5_241 hM16 hk14 ⟨Nat.le_refl _, Nat.le_refl _⟩ (Nat.le_of_ble_eq_true rfl) ⟨Nat.le_of_ble_eq_true rfl, Nat.le_of_ble_eq_true rfl⟩ dX5_put_79 (fun r17 I18 hφ23 => ?_)
    replace h := h r17 I18 hφ23
    refine wm_if_ne C 88 dX5_put_82 (by decide) (fun q => ?_) (fun q => ?_)
    · replace h := h.1 q
      refine wm_iinc C (x4 + 1) rfl dX5_put_88 rfl (by decide) ?_
      refine wm_goto C 51 dX5_put_91 ?_ (by decide)
      exact h
    · replace h := h.2 q
      refine wm_bipush C (-3) dX5_put_85 ?_ (by decide)
      exact wm_iret C hr rfl (Nat.le_of_ble_eq_true rfl) (Nat.le_of_ble_eq_true rfl) ⟨rfl, rfl, rfl, rfl, rfl, _, rfl, h⟩ dX5_put_87
set_option maxRecDepth 100000 in
set_option maxHeartbeats 4000000 in
theorem sX5_put {l : Launch} {G : Gx} {d : Nat} {K N : TK} {I : TI} {R : TR} {L : TL} {sz : Nat} {φ : Int32 → TI → Prop} {a0 : Nat} {a1 : Nat} {x2 : Int32} {a3 : Nat}
    (h : ∀ (p : Program) (e : Env) (s : State) (m : MethodId) (args : Array Value) (below : List Frame) (meth : Method) (c : Code), Cx p s m args meth c (AM K sz) G RX5 cX5_put 5 → meth.sig.returnType = (some .int) → K a0 = 11 ∧ (((I a0 1) = 0 → (WI p l e s m args below meth c G (d + 1) φ K N R L sz 5 51 [(0, .ref a0), (1, .ref a1), (2, .int x2), (3, .ref a3), (4, .int 0)] I)) ∧ (¬ (I a0 1) = 0 → K a1 = 12 ∧ ∃ φ3 : Int32 → TI → Prop, MtI l G yX1_code cX1_code 2 (some .int) d [.ref a1, .int x2] K N I R L sz φ3 ∧ ∀ (r5 : Int32) (I6 : TI), φ3 r5 I6 → ∃ φ12 : Int32 → TI → Prop, MtI l G yX5_withPartChanged cX5_withPartChanged 5 (some .int) d [.int r5, .ref a0] K N I6 R L sz φ12 ∧ ∀ (r14 : Int32) (I15 : TI), φ12 r14 I15 → ((0 ≤ r14 → K a3 = 12 ∧ ∃ φ22 : Int32 → TI → Prop, MtI l G yX1_addPut cX1_addPut 6 (some .boolean) d [.ref a3, .int r14, .int (I15 a0 0), .ref a1, .int x2] K N I15 R L sz φ22 ∧ ∀ (r24 : Int32) (I25 : TI), φ22 r24 I25 → ((r24 = 0 → φ (-3) I25) ∧ (¬ r24 = 0 → φ 0 I25))) ∧ (¬ 0 ≤ r14 → φ r14 I15))))) :
    MtI l G yX5_put cX5_put 5 (some .int) (d + 1) [.ref a0, .ref a1, .int x2, .ref a3] K N I R L sz φ :=
  MetM.of (own := RX5) (by decide) rfl (catR (catR (catI (catR cat0)))) (Nat.le_of_ble_eq_true rfl) (fun p e s m args below meth c C hr hnm => vX5_put_0 C hr (h p e s m args below meth c C hr))
set_option maxRecDepth 100000 in
set_option maxHeartbeats 4000000 in
theorem vX5_hasPart_0 {p : Program} {l : Launch} {e : Env} {s : State} {m : MethodId} {args : Array Value} {below : List Frame} {meth : Method} {c : Code} {G : Gx} {d : Nat} {K N : TK} {I : TI} {R : TR} {L : TL} {sz : Nat} {φ : Int32 → TI → Prop} (C : Cx p s m args meth c (AM K sz) G RX5 cX5_hasPart 4) (hr : meth.sig.returnType = (some .boolean)) {x0 : Int32} {a1 : Nat}
    (h : K a1 = 11 ∧ ∃ b2, R a1 2 = some b2 ∧ K b2 = 15 ∧ ∃ φ5 : Int32 → TI → Prop, MtI l G yX4_get cX4_get 2 (some .int) d [.ref b2, .int 0] K N I R L sz φ5 ∧ ∀ (r7 : Int32) (I8 : TI), φ5 r7 I8 → ∃ φ14 : Int32 → TI → Prop, MtI l G yX5_letters cX5_letters 3 (some .int) d [.int x0] K N I8 R L sz φ14 ∧ ∀ (r16 : Int32) (I17 : TI), φ14 r16 I17 → ∃ φ23 : Int32 → TI → Prop, MtI l G yX5_letters cX5_letters 3 (some .int) d [.int r7] K N I17 R L sz φ23 ∧ ∀ (r25 : Int32) (I26 : TI), φ23 r25 I26 → ((0 < (r16 - r25) → ((¬ (I26 a1 1) = 1 → ∃ φ32 : Int32 → TI → Prop, MtI l G yX5_letters cX5_letters 3 (some .int) d [.int r7] K N I26 R L sz φ32 ∧ ∀ (r34 : Int32) (I35 : TI), φ32 r34 I35 → ∃ φ41 : Int32 → TI → Prop, MtI l G yX5_lastOf cX5_lastOf 6 (some .int) d [.int x0, .int r34] K N I35 R L sz φ41 ∧ ∀ (r43 : Int32) (I44 : TI), φ41 r43 I44 → ((¬ r43 = r7 → φ 0 I44) ∧ (r43 = r7 → φ 1 I44))) ∧ ((I26 a1 1) = 1 → ∃ φ50 : Int32 → TI → Prop, MtI l G yX5_withoutLast cX5_withoutLast 4 (some .int) d [.int x0, .int (r16 - r25)] K N I26 R L sz φ50 ∧ ∀ (r52 : Int32) (I53 : TI), φ50 r52 I53 → ((¬ r52 = r7 → φ 0 I53) ∧ (r52 = r7 → φ 1 I53))))) ∧ (¬ 0 < (r16 - r25) → φ 0 I26))) :
    WI p l e s m args below meth c G (d + 1) φ K N R L sz 4 0 [(0, .int x0), (1, .ref a1)] I := by
  refine wm_aload_n C rfl dX5_hasPart_0 ?_
  obtain ⟨hk1, h⟩ := h
  obtain ⟨b2, hr3, h⟩ := h
  refine wm_getR C fqX5_84 hk1 hr3 dX5_hasPart_1 ?_
  refine wm_iconst C 0 dX5_hasPart_4 ?_ (by decide)
  obtain ⟨hk4, h⟩ := h
  obtain ⟨φ5, hM6, h⟩ := h
  refine wm_cVI1 C vqX5_235 hM6 hk4 ⟨Nat.le_refl _, Nat.le_refl _⟩ (Nat.le_of_ble_eq_true rfl) ⟨Nat.le_of_ble_eq_true rfl, Nat.le_of_ble_eq_true rfl⟩ dX5_hasPart_5 (fun r7 I8 hφ13 => ?_)
  replace h := h r7 I8 hφ13
  refine wm_istore_n C (by decide) dX5_hasPart_8 ?_
  refine wm_iload_n C rfl dX5_hasPart_9 ?_
  obtain ⟨φ14, hM15, h⟩ := h
  refine wm_cSI1 C sqX5_245 hM15 ⟨Nat.le_refl _, Nat.le_refl _⟩ (Nat.le_of_ble_eq_true rfl) ⟨Nat.le_of_ble_eq_true rfl, Nat.le_of_ble_eq_true rfl⟩ dX5_hasPart_10 (fun r16 I17 hφ22 => ?_)
  replace h := h r16 I17 hφ22
  refine wm_iload_n C rfl dX5_hasPart_13 ?_
  obtain ⟨φ23, hM24, h⟩ := h
  refine wm_cSI1 C sqX5_245 hM24 ⟨Nat.le_refl _, Nat.le_refl _⟩ (Nat.le_of_ble_eq_true rfl) ⟨Nat.le_of_ble_eq_true rfl, Nat.le_of_ble_eq_true rfl⟩ dX5_hasPart_14 (fun r25 I26 hφ31 => ?_)
  replace h := h r25 I26 hφ31
  refine wm_isub C dX5_hasPart_17 ?_
  refine wm_istore_n C (by decide) dX5_hasPart_18 ?_
  refine wm_iload_n C rfl dX5_hasPart_19 ?_
  refine wm_if_gt C 25 dX5_hasPart_20 (by decide) (fun q => ?_) (fun q => ?_)
  · replace h := h.1 q
    refine wm_aload_n C rfl dX5_hasPart_25 ?_
    refine wm_getI C fqX5_103 hk1 dX5_hasPart_26 ?_
    refine wm_iconst C 1 dX5_hasPart_29 ?_ (by decide)
    refine wm_icmp_ne C 50 dX5_hasPart_30 (by decide) (fun q => ?_) (fun q => ?_)
    · replace h := h.1 q
      refine wm_iload_n C rfl dX5_hasPart_50 ?_
      refine wm_iload_n C rfl dX5_hasPart_51 ?_
      obtain ⟨φ32, hM33, h⟩ := h
      refine wm_cSI1 C sqX5_245 hM33 ⟨Nat.le_refl _, Nat.le_refl _⟩ (Nat.le_of_ble_eq_true rfl) ⟨Nat.le_of_ble_eq_true rfl, Nat.le_of_ble_eq_true rfl⟩ dX5_hasPart_52 (fun r34 I35 hφ40 => ?_)
      replace h := h r34 I35 hφ40
      obtain ⟨φ41, hM42, h⟩ := h
      refine wm_cSI2 C sqX5_252 hM42 ⟨Nat.le_refl _, Nat.le_refl _⟩ (Nat.le_of_ble_eq_true rfl) ⟨Nat.le_of_ble_eq_true rfl, Nat.le_of_ble_eq_true rfl⟩ dX5_hasPart_55 (fun r43 I44 hφ49 => ?_)
      replace h := h r43 I44 hφ49
      refine wm_iload_n C rfl dX5_hasPart_58 ?_
      refine wm_icmp_ne C 66 dX5_hasPart_59 (by decide) (fun q => ?_) (fun q => ?_)
      · replace h := h.1 q
        refine wm_iconst C 0 dX5_hasPart_66 ?_ (by decide)
        exact wm_iret C hr rfl (Nat.le_of_ble_eq_true rfl) (Nat.le_of_ble_eq_true rfl) ⟨rfl, rfl, rfl, rfl, rfl, _, rfl, h⟩ dX5_hasPart_67
      · replace h := h.2 q
        refine wm_iconst C 1 dX5_hasPart_62 ?_ (by decide)
        refine wm_goto C 67 dX5_hasPart_63 ?_ (by decide)
        exact wm_iret C hr rfl (Nat.le_of_ble_eq_true rfl) (Nat.le_of_ble_eq_true rfl) ⟨rfl, rfl, rfl, rfl, rfl, _, rfl, h⟩ dX5_hasPart_67
    · replace h := h.2 q
      refine wm_iload_n C rfl dX5_hasPart_33 ?_
      refine wm_iload_n C rfl dX5_hasPart_34 ?_
      obtain ⟨φ50, hM51, h⟩ := h
      refine wm_cSI2 C sqX5_248 hM51 ⟨Nat.le_refl _, Nat.le_refl _⟩ (Nat.le_of_ble_eq_true rfl) ⟨Nat.le_of_ble_eq_true rfl, Nat.le_of_ble_eq_true rfl⟩ dX5_hasPart_35 (fun r52 I53 hφ58 => ?_)
      replace h := h r52 I53 hφ58
      refine wm_iload_n C rfl dX5_hasPart_38 ?_
      refine wm_icmp_ne C 46 dX5_hasPart_39 (by decide) (fun q => ?_) (fun q => ?_)
      · replace h := h.1 q
        refine wm_iconst C 0 dX5_hasPart_46 ?_ (by decide)
        refine wm_goto C 67 dX5_hasPart_47 ?_ (by decide)
        exact wm_iret C hr rfl (Nat.le_of_ble_eq_true rfl) (Nat.le_of_ble_eq_true rfl) ⟨rfl, rfl, rfl, rfl, rfl, _, rfl, h⟩ dX5_hasPart_67
      · replace h := h.2 q
        refine wm_iconst C 1 dX5_hasPart_42 ?_ (by decide)
        refine wm_goto C 67 dX5_hasPart_43 ?_ (by decide)
        exact wm_iret C hr rfl (Nat.le_of_ble_eq_true rfl) (Nat.le_of_ble_eq_true rfl) ⟨rfl, rfl, rfl, rfl, rfl, _, rfl, h⟩ dX5_hasPart_67
  · replace h := h.2 q
    refine wm_iconst C 0 dX5_hasPart_23 ?_ (by decide)
    exact wm_iret C hr rfl (Nat.le_of_ble_eq_true rfl) (Nat.le_of_ble_eq_true rfl) ⟨rfl, rfl, rfl, rfl, rfl, _, rfl, h⟩ dX5_hasPart_24
set_option maxRecDepth 100000 in
set_option maxHeartbeats 4000000 in
theorem sX5_hasPart {l : Launch} {G : Gx} {d : Nat} {K N : TK} {I : TI} {R : TR} {L : TL} {sz : Nat} {φ : Int32 → TI → Prop} {x0 : Int32} {a1 : Nat}
    (h : K a1 = 11 ∧ ∃ b2, R a1 2 = some b2 ∧ K b2 = 15 ∧ ∃ φ5 : Int32 → TI → Prop, MtI l G yX4_get cX4_get 2 (some .int) d [.ref b2, .int 0] K N I R L sz φ5 ∧ ∀ (r7 : Int32) (I8 : TI), φ5 r7 I8 → ∃ φ14 : Int32 → TI → Prop, MtI l G yX5_letters cX5_letters 3 (some .int) d [.int x0] K N I8 R L sz φ14 ∧ ∀ (r16 : Int32) (I17 : TI), φ14 r16 I17 → ∃ φ23 : Int32 → TI → Prop, MtI l G yX5_letters cX5_letters 3 (some .int) d [.int r7] K N I17 R L sz φ23 ∧ ∀ (r25 : Int32) (I26 : TI), φ23 r25 I26 → ((0 < (r16 - r25) → ((¬ (I26 a1 1) = 1 → ∃ φ32 : Int32 → TI → Prop, MtI l G yX5_letters cX5_letters 3 (some .int) d [.int r7] K N I26 R L sz φ32 ∧ ∀ (r34 : Int32) (I35 : TI), φ32 r34 I35 → ∃ φ41 : Int32 → TI → Prop, MtI l G yX5_lastOf cX5_lastOf 6 (some .int) d [.int x0, .int r34] K N I35 R L sz φ41 ∧ ∀ (r43 : Int32) (I44 : TI), φ41 r43 I44 → ((¬ r43 = r7 → φ 0 I44) ∧ (r43 = r7 → φ 1 I44))) ∧ ((I26 a1 1) = 1 → ∃ φ50 : Int32 → TI → Prop, MtI l G yX5_withoutLast cX5_withoutLast 4 (some .int) d [.int x0, .int (r16 - r25)] K N I26 R L sz φ50 ∧ ∀ (r52 : Int32) (I53 : TI), φ50 r52 I53 → ((¬ r52 = r7 → φ 0 I53) ∧ (r52 = r7 → φ 1 I53))))) ∧ (¬ 0 < (r16 - r25) → φ 0 I26))) :
    MtI l G yX5_hasPart cX5_hasPart 4 (some .boolean) (d + 1) [.int x0, .ref a1] K N I R L sz φ :=
  MetM.of (own := RX5) (by decide) rfl (catI (catR cat0)) (Nat.le_of_ble_eq_true rfl) (fun p e s m args below meth c C hr hnm => vX5_hasPart_0 C hr h)
set_option maxRecDepth 100000 in
set_option maxHeartbeats 4000000 in
theorem vX5_withPartChanged_0 {p : Program} {l : Launch} {e : Env} {s : State} {m : MethodId} {args : Array Value} {below : List Frame} {meth : Method} {c : Code} {G : Gx} {d : Nat} {K N : TK} {I : TI} {R : TR} {L : TL} {sz : Nat} {φ : Int32 → TI → Prop} (C : Cx p s m args meth c (AM K sz) G RX5 cX5_withPartChanged 5) (hr : meth.sig.returnType = (some .int)) {x0 : Int32} {a1 : Nat}
    (h : K a1 = 11 ∧ ∃ b2, R a1 2 = some b2 ∧ K b2 = 15 ∧ ∃ φ5 : Int32 → TI → Prop, MtI l G yX4_get cX4_get 2 (some .int) d [.ref b2, .int 0] K N I R L sz φ5 ∧ ∀ (r7 : Int32) (I8 : TI), φ5 r7 I8 → ∃ φ14 : Int32 → TI → Prop, MtI l G yX5_letters cX5_letters 3 (some .int) d [.int r7] K N I8 R L sz φ14 ∧ ∀ (r16 : Int32) (I17 : TI), φ14 r16 I17 → ∃ φ23 : Int32 → TI → Prop, MtI l G yX5_letters cX5_letters 3 (some .int) d [.int x0] K N I17 R L sz φ23 ∧ ∀ (r25 : Int32) (I26 : TI), φ23 r25 I26 → ∃ b32, R a1 3 = some b32 ∧ K b32 = 15 ∧ (((I26 b32 1) ≤ 0 → ∃ φ35 : Int32 → TI → Prop, MtI l G yX5_letters cX5_letters 3 (some .int) d [.int 0] K N I26 R L sz φ35 ∧ ∀ (r37 : Int32) (I38 : TI), φ35 r37 I38 → ((((r25 - r16) + r37) ≤ 6 → ((¬ (I38 a1 1) = 1 → ∃ φ44 : Int32 → TI → Prop, MtI l G yX5_withoutLast cX5_withoutLast 4 (some .int) d [.int x0, .int r16] K N I38 R L sz φ44 ∧ ∀ (r46 : Int32) (I47 : TI), φ44 r46 I47 → ∃ φ53 : Int32 → TI → Prop, MtI l G yX5_letters cX5_letters 3 (some .int) d [.int 0] K N I47 R L sz φ53 ∧ ∀ (r55 : Int32) (I56 : TI), φ53 r55 I56 → ∃ φ62 : Int32 → TI → Prop, MtI l G yX5_power cX5_power 3 (some .int) d [.int r55] K N I56 R L sz φ62 ∧ ∀ (r64 : Int32) (I65 : TI), φ62 r64 I65 → φ ((r46 * r64) + 0) I65) ∧ ((I38 a1 1) = 1 → ∃ φ71 : Int32 → TI → Prop, MtI l G yX5_power cX5_power 3 (some .int) d [.int (r25 - r16)] K N I38 R L sz φ71 ∧ ∀ (r73 : Int32) (I74 : TI), φ71 r73 I74 → ∃ φ80 : Int32 → TI → Prop, MtI l G yX5_lastOf cX5_lastOf 6 (some .int) d [.int x0, .int (r25 - r16)] K N I74 R L sz φ80 ∧ ∀ (r82 : Int32) (I83 : TI), φ80 r82 I83 → φ ((0 * r73) + r82) I83))) ∧ (¬ ((r25 - r16) + r37) ≤ 6 → φ (-5) I38))) ∧ (¬ (I26 b32 1) ≤ 0 → ∃ φ89 : Int32 → TI → Prop, MtI l G yX4_get cX4_get 2 (some .int) d [.ref b32, .int 0] K N I26 R L sz φ89 ∧ ∀ (r91 : Int32) (I92 : TI), φ89 r91 I92 → ∃ φ98 : Int32 → TI → Prop, MtI l G yX5_letters cX5_letters 3 (some .int) d [.int r91] K N I92 R L sz φ98 ∧ ∀ (r100 : Int32) (I101 : TI), φ98 r100 I101 → ((((r25 - r16) + r100) ≤ 6 → ((¬ (I101 a1 1) = 1 → ∃ φ107 : Int32 → TI → Prop, MtI l G yX5_withoutLast cX5_withoutLast 4 (some .int) d [.int x0, .int r16] K N I101 R L sz φ107 ∧ ∀ (r109 : Int32) (I110 : TI), φ107 r109 I110 → ∃ φ116 : Int32 → TI → Prop, MtI l G yX5_letters cX5_letters 3 (some .int) d [.int r91] K N I110 R L sz φ116 ∧ ∀ (r118 : Int32) (I119 : TI), φ116 r118 I119 → ∃ φ125 : Int32 → TI → Prop, MtI l G yX5_power cX5_power 3 (some .int) d [.int r118] K N I119 R L sz φ125 ∧ ∀ (r127 : Int32) (I128 : TI), φ125 r127 I128 → φ ((r109 * r127) + r91) I128) ∧ ((I101 a1 1) = 1 → ∃ φ134 : Int32 → TI → Prop, MtI l G yX5_power cX5_power 3 (some .int) d [.int (r25 - r16)] K N I101 R L sz φ134 ∧ ∀ (r136 : Int32) (I137 : TI), φ134 r136 I137 → ∃ φ143 : Int32 → TI → Prop, MtI l G yX5_lastOf cX5_lastOf 6 (some .int) d [.int x0, .int (r25 - r16)] K N I137 R L sz φ143 ∧ ∀ (r145 : Int32) (I146 : TI), φ143 r145 I146 → φ ((r91 * r136) + r145) I146))) ∧ (¬ ((r25 - r16) + r100) ≤ 6 → φ (-5) I101))))) :
    WI p l e s m args below meth c G (d + 1) φ K N R L sz 5 0 [(0, .int x0), (1, .ref a1)] I := by
  refine wm_aload_n C rfl dX5_withPartChanged_0 ?_
  obtain ⟨hk1, h⟩ := h
  obtain ⟨b2, hr3, h⟩ := h
  refine wm_getR C fqX5_84 hk1 hr3 dX5_withPartChanged_1 ?_
  refine wm_iconst C 0 dX5_withPartChanged_4 ?_ (by decide)
  obtain ⟨hk4, h⟩ := h
  obtain ⟨φ5, hM6, h⟩ := h
  refine wm_cVI1 C vqX5_235 hM6 hk4 ⟨Nat.le_refl _, Nat.le_refl _⟩ (Nat.le_of_ble_eq_true rfl) ⟨Nat.le_of_ble_eq_true rfl, Nat.le_of_ble_eq_true rfl⟩ dX5_withPartChanged_5 (fun r7 I8 hφ13 => ?_)
  replace h := h r7 I8 hφ13
  obtain ⟨φ14, hM15, h⟩ := h
  refine wm_cSI1 C sqX5_245 hM15 ⟨Nat.le_refl _, Nat.le_refl _⟩ (Nat.le_of_ble_eq_true rfl) ⟨Nat.le_of_ble_eq_true rfl, Nat.le_of_ble_eq_true rfl⟩ dX5_withPartChanged_8 (fun r16 I17 hφ22 => ?_)
  replace h := h r16 I17 hφ22
  refine wm_istore_n C (by decide) dX5_withPartChanged_11 ?_
  refine wm_iload_n C rfl dX5_withPartChanged_12 ?_
  obtain ⟨φ23, hM24, h⟩ := h
  refine wm_cSI1 C sqX5_245 hM24 ⟨Nat.le_refl _, Nat.le_refl _⟩ (Nat.le_of_ble_eq_true rfl) ⟨Nat.le_of_ble_eq_true rfl, Nat.le_of_ble_eq_true rfl⟩ dX5_withPartChanged_13 (fun r25 I26 hφ31 => ?_)
  replace h := h r25 I26 hφ31
  refine wm_iload_n C rfl dX5_withPartChanged_16 ?_
  refine wm_isub C dX5_withPartChanged_17 ?_
  refine wm_istore_n C (by decide) dX5_withPartChanged_18 ?_
  refine wm_aload_n C rfl dX5_withPartChanged_19 ?_
  obtain ⟨b32, hr33, h⟩ := h
  refine wm_getR C fqX5_111 hk1 hr33 dX5_withPartChanged_20 ?_
  obtain ⟨hk34, h⟩ := h
  refine wm_getI C fqX5_110 hk34 dX5_withPartChanged_23 ?_
  refine wm_if_le C 40 dX5_withPartChanged_26 (by decide) (fun q => ?_) (fun q => ?_)
  · replace h := h.1 q
    refine wm_iconst C 0 dX5_withPartChanged_40 ?_ (by decide)
    refine wm_istore C (by decide) dX5_withPartChanged_41 ?_
    refine wm_iload_n C rfl dX5_withPartChanged_43 ?_
    refine wm_iload C rfl dX5_withPartChanged_44 ?_
    obtain ⟨φ35, hM36, h⟩ := h
    refine wm_cSI1 C sqX5_245 hM36 ⟨Nat.le_refl _, Nat.le_refl _⟩ (Nat.le_of_ble_eq_true rfl) ⟨Nat.le_of_ble_eq_true rfl, Nat.le_of_ble_eq_true rfl⟩ dX5_withPartChanged_46 (fun r37 I38 hφ43 => ?_)
    replace h := h r37 I38 hφ43
    refine wm_iadd C dX5_withPartChanged_49 ?_
    refine wm_bipush C 6 dX5_withPartChanged_50 ?_ (by decide)
    refine wm_icmp_le C 58 dX5_withPartChanged_52 (by decide) (fun q => ?_) (fun q => ?_)
    · replace h := h.1 q
      refine wm_aload_n C rfl dX5_withPartChanged_58 ?_
      refine wm_getI C fqX5_103 hk1 dX5_withPartChanged_59 ?_
      refine wm_iconst C 1 dX5_withPartChanged_62 ?_ (by decide)
      refine wm_icmp_ne C 80 dX5_withPartChanged_63 (by decide) (fun q => ?_) (fun q => ?_)
      · replace h := h.1 q
        refine wm_iload_n C rfl dX5_withPartChanged_80 ?_
        refine wm_iload_n C rfl dX5_withPartChanged_81 ?_
        obtain ⟨φ44, hM45, h⟩ := h
        refine wm_cSI2 C sqX5_248 hM45 ⟨Nat.le_refl _, Nat.le_refl _⟩ (Nat.le_of_ble_eq_true rfl) ⟨Nat.le_of_ble_eq_true rfl, Nat.le_of_ble_eq_true rfl⟩ dX5_withPartChanged_82 (fun r46 I47 hφ52 => ?_)
        replace h := h r46 I47 hφ52
        refine wm_iload C rfl dX5_withPartChanged_85 ?_
        obtain ⟨φ53, hM54, h⟩ := h
        refine wm_cSI1 C sqX5_245 hM54 ⟨Nat.le_refl _, Nat.le_refl _⟩ (Nat.le_of_ble_eq_true rfl) ⟨Nat.le_of_ble_eq_true rfl, Nat.le_of_ble_eq_true rfl⟩ dX5_withPartChanged_87 (fun r55 I56 hφ61 => ?_)
        replace h := h r55 I56 hφ61
        obtain ⟨φ62, hM63, h⟩ := h
        refine wm_cSI1 C sqX5_255 hM63 ⟨Nat.le_refl _, Nat.le_refl _⟩ (Nat.le_of_ble_eq_true rfl) ⟨Nat.le_of_ble_eq_true rfl, Nat.le_of_ble_eq_true rfl⟩ dX5_withPartChanged_90 (fun r64 I65 hφ70 => ?_)
        replace h := h r64 I65 hφ70
        refine wm_imul C dX5_withPartChanged_93 ?_
        refine wm_iload C rfl dX5_withPartChanged_94 ?_
        refine wm_iadd C dX5_withPartChanged_96 ?_
        exact wm_iret C hr rfl (Nat.le_of_ble_eq_true rfl) (Nat.le_of_ble_eq_true rfl) ⟨rfl, rfl, rfl, rfl, rfl, _, rfl, h⟩ dX5_withPartChanged_97
      · replace h := h.2 q
        refine wm_iload C rfl dX5_withPartChanged_66 ?_
        refine wm_iload_n C rfl dX5_withPartChanged_68 ?_
        obtain ⟨φ71, hM72, h⟩ := h
        refine wm_cSI1 C sqX5_255 hM72 ⟨Nat.le_refl _, Nat.le_refl _⟩ (Nat.le_of_ble_eq_true rfl) ⟨Nat.le_of_ble_eq_true rfl, Nat.le_of_ble_eq_true rfl⟩ dX5_withPartChanged_69 (fun r73 I74 hφ79 => ?_)
        replace h := h r73 I74 hφ79
        refine wm_imul C dX5_withPartChanged_72 ?_
        refine wm_iload_n C rfl dX5_withPartChanged_73 ?_
        refine wm_iload_n C rfl dX5_withPartChanged_74 ?_
        obtain ⟨φ80, hM81, h⟩ := h
        refine wm_cSI2 C sqX5_252 hM81 ⟨Nat.le_refl _, Nat.le_refl _⟩ (Nat.le_of_ble_eq_true rfl) ⟨Nat.le_of_ble_eq_true rfl, Nat.le_of_ble_eq_true rfl⟩ dX5_withPartChanged_75 (fun r82 I83 hφ88 => ?_)
        replace h := h r82 I83 hφ88
        refine wm_iadd C dX5_withPartChanged_78 ?_
        exact wm_iret C hr rfl (Nat.le_of_ble_eq_true rfl) (Nat.le_of_ble_eq_true rfl) ⟨rfl, rfl, rfl, rfl, rfl, _, rfl, h⟩ dX5_withPartChanged_79
    · replace h := h.2 q
      refine wm_bipush C (-5) dX5_withPartChanged_55 ?_ (by decide)
      exact wm_iret C hr rfl (Nat.le_of_ble_eq_true rfl) (Nat.le_of_ble_eq_true rfl) ⟨rfl, rfl, rfl, rfl, rfl, _, rfl, h⟩ dX5_withPartChanged_57
  · replace h := h.2 q
    refine wm_aload_n C rfl dX5_withPartChanged_29 ?_
    refine wm_getR C fqX5_111 hk1 hr33 dX5_withPartChanged_30 ?_
    refine wm_iconst C 0 dX5_withPartChanged_33 ?_ (by decide)
    obtain ⟨φ89, hM90, h⟩ := h
    refine wm_cVI1 C vqX5_235 hM90 hk34 ⟨Nat.le_refl _, Nat.le_refl _⟩ (Nat.le_of_ble_eq_true rfl) ⟨Nat.le_of_ble_eq_true rfl, Nat.le_of_ble_eq_true rfl⟩ dX5_withPartChanged_34 (fun r91 I92 hφ97 => ?_)
    replace h := h r91 I92 hφ97
    refine wm_goto C 41 dX5_withPartChanged_37 ?_ (by decide)
    refine wm_istore C (by decide) dX5_withPartChanged_41 ?_
    refine wm_iload_n C rfl dX5_withPartChanged_43 ?_
    refine wm_iload C rfl dX5_withPartChanged_44 ?_
    obtain ⟨φ98, hM99, h⟩ := h
    refine wm_cSI1 C sqX5_245 hM99 ⟨Nat.le_refl _, Nat.le_refl _⟩ (Nat.le_of_ble_eq_true rfl) ⟨Nat.le_of_ble_eq_true rfl, Nat.le_of_ble_eq_true rfl⟩ dX5_withPartChanged_46 (fun r100 I101 hφ106 => ?_)
    replace h := h r100 I101 hφ106
    refine wm_iadd C dX5_withPartChanged_49 ?_
    refine wm_bipush C 6 dX5_withPartChanged_50 ?_ (by decide)
    refine wm_icmp_le C 58 dX5_withPartChanged_52 (by decide) (fun q => ?_) (fun q => ?_)
    · replace h := h.1 q
      refine wm_aload_n C rfl dX5_withPartChanged_58 ?_
      refine wm_getI C fqX5_103 hk1 dX5_withPartChanged_59 ?_
      refine wm_iconst C 1 dX5_withPartChanged_62 ?_ (by decide)
      refine wm_icmp_ne C 80 dX5_withPartChanged_63 (by decide) (fun q => ?_) (fun q => ?_)
      · replace h := h.1 q
        refine wm_iload_n C rfl dX5_withPartChanged_80 ?_
        refine wm_iload_n C rfl dX5_withPartChanged_81 ?_
        obtain ⟨φ107, hM108, h⟩ := h
        refine wm_cSI2 C sqX5_248 hM108 ⟨Nat.le_refl _, Nat.le_refl _⟩ (Nat.le_of_ble_eq_true rfl) ⟨Nat.le_of_ble_eq_true rfl, Nat.le_of_ble_eq_true rfl⟩ dX5_withPartChanged_82 (fun r109 I110 hφ115 => ?_)
        replace h := h r109 I110 hφ115
        refine wm_iload C rfl dX5_withPartChanged_85 ?_
        obtain ⟨φ116, hM117, h⟩ := h
        refine wm_cSI1 C sqX5_245 hM117 ⟨Nat.le_refl _, Nat.le_refl _⟩ (Nat.le_of_ble_eq_true rfl) ⟨Nat.le_of_ble_eq_true rfl, Nat.le_of_ble_eq_true rfl⟩ dX5_withPartChanged_87 (fun r118 I119 hφ124 => ?_)
        replace h := h r118 I119 hφ124
        obtain ⟨φ125, hM126, h⟩ := h
        refine wm_cSI1 C sqX5_255 hM126 ⟨Nat.le_refl _, Nat.le_refl _⟩ (Nat.le_of_ble_eq_true rfl) ⟨Nat.le_of_ble_eq_true rfl, Nat.le_of_ble_eq_true rfl⟩ dX5_withPartChanged_90 (fun r127 I128 hφ133 => ?_)
        replace h := h r127 I128 hφ133
        refine wm_imul C dX5_withPartChanged_93 ?_
        refine wm_iload C rfl dX5_withPartChanged_94 ?_
        refine wm_iadd C dX5_withPartChanged_96 ?_
        exact wm_iret C hr rfl (Nat.le_of_ble_eq_true rfl) (Nat.le_of_ble_eq_true rfl) ⟨rfl, rfl, rfl, rfl, rfl, _, rfl, h⟩ dX5_withPartChanged_97
      · replace h := h.2 q
        refine wm_iload C rfl dX5_withPartChanged_66 ?_
        refine wm_iload_n C rfl dX5_withPartChanged_68 ?_
        obtain ⟨φ134, hM135, h⟩ := h
        refine wm_cSI1 C sqX5_255 hM135 ⟨Nat.le_refl _, Nat.le_refl _⟩ (Nat.le_of_ble_eq_true rfl) ⟨Nat.le_of_ble_eq_true rfl, Nat.le_of_ble_eq_true rfl⟩ dX5_withPartChanged_69 (fun r136 I137 hφ142 => ?_)
        replace h := h r136 I137 hφ142
        refine wm_imul C dX5_withPartChanged_72 ?_
        refine wm_iload_n C rfl dX5_withPartChanged_73 ?_
        refine wm_iload_n C rfl dX5_withPartChanged_74 ?_
        obtain ⟨φ143, hM144, h⟩ := h
        refine wm_cSI2 C sqX5_252 hM144 ⟨Nat.le_refl _, Nat.le_refl _⟩ (Nat.le_of_ble_eq_true rfl) ⟨Nat.le_of_ble_eq_true rfl, Nat.le_of_ble_eq_true rfl⟩ dX5_withPartChanged_75 (fun r145 I146 hφ151 => ?_)
        replace h := h r145 I146 hφ151
        refine wm_iadd C dX5_withPartChanged_78 ?_
        exact wm_iret C hr rfl (Nat.le_of_ble_eq_true rfl) (Nat.le_of_ble_eq_true rfl) ⟨rfl, rfl, rfl, rfl, rfl, _, rfl, h⟩ dX5_withPartChanged_79
    · replace h := h.2 q
      refine wm_bipush C (-5) dX5_withPartChanged_55 ?_ (by decide)
      exact wm_iret C hr rfl (Nat.le_of_ble_eq_true rfl) (Nat.le_of_ble_eq_true rfl) ⟨rfl, rfl, rfl, rfl, rfl, _, rfl, h⟩ dX5_withPartChanged_57
set_option maxRecDepth 100000 in
set_option maxHeartbeats 4000000 in
theorem sX5_withPartChanged {l : Launch} {G : Gx} {d : Nat} {K N : TK} {I : TI} {R : TR} {L : TL} {sz : Nat} {φ : Int32 → TI → Prop} {x0 : Int32} {a1 : Nat}
    (h : K a1 = 11 ∧ ∃ b2, R a1 2 = some b2 ∧ K b2 = 15 ∧ ∃ φ5 : Int32 → TI → Prop, MtI l G yX4_get cX4_get 2 (some .int) d [.ref b2, .int 0] K N I R L sz φ5 ∧ ∀ (r7 : Int32) (I8 : TI), φ5 r7 I8 → ∃ φ14 : Int32 → TI → Prop, MtI l G yX5_letters cX5_letters 3 (some .int) d [.int r7] K N I8 R L sz φ14 ∧ ∀ (r16 : Int32) (I17 : TI), φ14 r16 I17 → ∃ φ23 : Int32 → TI → Prop, MtI l G yX5_letters cX5_letters 3 (some .int) d [.int x0] K N I17 R L sz φ23 ∧ ∀ (r25 : Int32) (I26 : TI), φ23 r25 I26 → ∃ b32, R a1 3 = some b32 ∧ K b32 = 15 ∧ (((I26 b32 1) ≤ 0 → ∃ φ35 : Int32 → TI → Prop, MtI l G yX5_letters cX5_letters 3 (some .int) d [.int 0] K N I26 R L sz φ35 ∧ ∀ (r37 : Int32) (I38 : TI), φ35 r37 I38 → ((((r25 - r16) + r37) ≤ 6 → ((¬ (I38 a1 1) = 1 → ∃ φ44 : Int32 → TI → Prop, MtI l G yX5_withoutLast cX5_withoutLast 4 (some .int) d [.int x0, .int r16] K N I38 R L sz φ44 ∧ ∀ (r46 : Int32) (I47 : TI), φ44 r46 I47 → ∃ φ53 : Int32 → TI → Prop, MtI l G yX5_letters cX5_letters 3 (some .int) d [.int 0] K N I47 R L sz φ53 ∧ ∀ (r55 : Int32) (I56 : TI), φ53 r55 I56 → ∃ φ62 : Int32 → TI → Prop, MtI l G yX5_power cX5_power 3 (some .int) d [.int r55] K N I56 R L sz φ62 ∧ ∀ (r64 : Int32) (I65 : TI), φ62 r64 I65 → φ ((r46 * r64) + 0) I65) ∧ ((I38 a1 1) = 1 → ∃ φ71 : Int32 → TI → Prop, MtI l G yX5_power cX5_power 3 (some .int) d [.int (r25 - r16)] K N I38 R L sz φ71 ∧ ∀ (r73 : Int32) (I74 : TI), φ71 r73 I74 → ∃ φ80 : Int32 → TI → Prop, MtI l G yX5_lastOf cX5_lastOf 6 (some .int) d [.int x0, .int (r25 - r16)] K N I74 R L sz φ80 ∧ ∀ (r82 : Int32) (I83 : TI), φ80 r82 I83 → φ ((0 * r73) + r82) I83))) ∧ (¬ ((r25 - r16) + r37) ≤ 6 → φ (-5) I38))) ∧ (¬ (I26 b32 1) ≤ 0 → ∃ φ89 : Int32 → TI → Prop, MtI l G yX4_get cX4_get 2 (some .int) d [.ref b32, .int 0] K N I26 R L sz φ89 ∧ ∀ (r91 : Int32) (I92 : TI), φ89 r91 I92 → ∃ φ98 : Int32 → TI → Prop, MtI l G yX5_letters cX5_letters 3 (some .int) d [.int r91] K N I92 R L sz φ98 ∧ ∀ (r100 : Int32) (I101 : TI), φ98 r100 I101 → ((((r25 - r16) + r100) ≤ 6 → ((¬ (I101 a1 1) = 1 → ∃ φ107 : Int32 → TI → Prop, MtI l G yX5_withoutLast cX5_withoutLast 4 (some .int) d [.int x0, .int r16] K N I101 R L sz φ107 ∧ ∀ (r109 : Int32) (I110 : TI), φ107 r109 I110 → ∃ φ116 : Int32 → TI → Prop, MtI l G yX5_letters cX5_letters 3 (some .int) d [.int r91] K N I110 R L sz φ116 ∧ ∀ (r118 : Int32) (I119 : TI), φ116 r118 I119 → ∃ φ125 : Int32 → TI → Prop, MtI l G yX5_power cX5_power 3 (some .int) d [.int r118] K N I119 R L sz φ125 ∧ ∀ (r127 : Int32) (I128 : TI), φ125 r127 I128 → φ ((r109 * r127) + r91) I128) ∧ ((I101 a1 1) = 1 → ∃ φ134 : Int32 → TI → Prop, MtI l G yX5_power cX5_power 3 (some .int) d [.int (r25 - r16)] K N I101 R L sz φ134 ∧ ∀ (r136 : Int32) (I137 : TI), φ134 r136 I137 → ∃ φ143 : Int32 → TI → Prop, MtI l G yX5_lastOf cX5_lastOf 6 (some .int) d [.int x0, .int (r25 - r16)] K N I137 R L sz φ143 ∧ ∀ (r145 : Int32) (I146 : TI), φ143 r145 I146 → φ ((r91 * r136) + r145) I146))) ∧ (¬ ((r25 - r16) + r100) ≤ 6 → φ (-5) I101))))) :
    MtI l G yX5_withPartChanged cX5_withPartChanged 5 (some .int) (d + 1) [.int x0, .ref a1] K N I R L sz φ :=
  MetM.of (own := RX5) (by decide) rfl (catI (catR cat0)) (Nat.le_of_ble_eq_true rfl) (fun p e s m args below meth c C hr hnm => vX5_withPartChanged_0 C hr h)
set_option maxRecDepth 100000 in
set_option maxHeartbeats 4000000 in
theorem vX5_isName_0 {p : Program} {l : Launch} {e : Env} {s : State} {m : MethodId} {args : Array Value} {below : List Frame} {meth : Method} {c : Code} {G : Gx} {d : Nat} {K N : TK} {I : TI} {R : TR} {L : TL} {sz : Nat} {φ : Int32 → TI → Prop} (C : Cx p s m args meth c (AM K sz) G RX5 cX5_isName 1) (hr : meth.sig.returnType = (some .boolean)) {x0 : Int32}
    (h : ((x0 < 0 → φ 0 I) ∧ (¬ x0 < 0 → ((99 < x0 → φ 0 I) ∧ (¬ 99 < x0 → φ 1 I))))) :
    WI p l e s m args below meth c G d φ K N R L sz 1 0 [(0, .int x0)] I := by
  refine wm_iload_n C rfl dX5_isName_0 ?_
  refine wm_if_lt C 14 dX5_isName_1 (by decide) (fun q => ?_) (fun q => ?_)
  · replace h := h.1 q
    refine wm_iconst C 0 dX5_isName_14 ?_ (by decide)
    exact wm_iret C hr rfl (Nat.le_of_ble_eq_true rfl) (Nat.le_of_ble_eq_true rfl) ⟨rfl, rfl, rfl, rfl, rfl, _, rfl, h⟩ dX5_isName_15
  · replace h := h.2 q
    refine wm_iload_n C rfl dX5_isName_4 ?_
    refine wm_bipush C 99 dX5_isName_5 ?_ (by decide)
    refine wm_icmp_gt C 14 dX5_isName_7 (by decide) (fun q => ?_) (fun q => ?_)
    · replace h := h.1 q
      refine wm_iconst C 0 dX5_isName_14 ?_ (by decide)
      exact wm_iret C hr rfl (Nat.le_of_ble_eq_true rfl) (Nat.le_of_ble_eq_true rfl) ⟨rfl, rfl, rfl, rfl, rfl, _, rfl, h⟩ dX5_isName_15
    · replace h := h.2 q
      refine wm_iconst C 1 dX5_isName_10 ?_ (by decide)
      refine wm_goto C 15 dX5_isName_11 ?_ (by decide)
      exact wm_iret C hr rfl (Nat.le_of_ble_eq_true rfl) (Nat.le_of_ble_eq_true rfl) ⟨rfl, rfl, rfl, rfl, rfl, _, rfl, h⟩ dX5_isName_15
set_option maxRecDepth 100000 in
set_option maxHeartbeats 4000000 in
theorem sX5_isName {l : Launch} {G : Gx} {d : Nat} {K N : TK} {I : TI} {R : TR} {L : TL} {sz : Nat} {φ : Int32 → TI → Prop} {x0 : Int32}
    (h : ((x0 < 0 → φ 0 I) ∧ (¬ x0 < 0 → ((99 < x0 → φ 0 I) ∧ (¬ 99 < x0 → φ 1 I))))) :
    MtI l G yX5_isName cX5_isName 1 (some .boolean) d [.int x0] K N I R L sz φ :=
  MetM.of (own := RX5) (by decide) rfl (catI cat0) (Nat.le_of_ble_eq_true rfl) (fun p e s m args below meth c C hr hnm => vX5_isName_0 C hr h)
set_option maxRecDepth 100000 in
set_option maxHeartbeats 4000000 in
theorem vX5_isPlain_0 {p : Program} {l : Launch} {e : Env} {s : State} {m : MethodId} {args : Array Value} {below : List Frame} {meth : Method} {c : Code} {G : Gx} {d : Nat} {K N : TK} {I : TI} {R : TR} {L : TL} {sz : Nat} {φ : Int32 → TI → Prop} (C : Cx p s m args meth c (AM K sz) G RX5 cX5_isPlain 1) (hr : meth.sig.returnType = (some .boolean)) {x0 : Int32}
    (h : ((x0 = 0 → φ 1 I) ∧ (¬ x0 = 0 → ((x0 = (-1) → φ 1 I) ∧ (¬ x0 = (-1) → ∃ φ1 : Int32 → TI → Prop, MtI l G yX5_isWord cX5_isWord 3 (some .boolean) d [.int x0] K N I R L sz φ1 ∧ ∀ (r3 : Int32) (I4 : TI), φ1 r3 I4 → ((r3 = 0 → φ 0 I4) ∧ (¬ r3 = 0 → φ 1 I4))))))) :
    WI p l e s m args below meth c G (d + 1) φ K N R L sz 1 0 [(0, .int x0)] I := by
  refine wm_iload_n C rfl dX5_isPlain_0 ?_
  refine wm_if_eq C 16 dX5_isPlain_1 (by decide) (fun q => ?_) (fun q => ?_)
  · replace h := h.1 q
    refine wm_iconst C 1 dX5_isPlain_16 ?_ (by decide)
    refine wm_goto C 21 dX5_isPlain_17 ?_ (by decide)
    exact wm_iret C hr rfl (Nat.le_of_ble_eq_true rfl) (Nat.le_of_ble_eq_true rfl) ⟨rfl, rfl, rfl, rfl, rfl, _, rfl, h⟩ dX5_isPlain_21
  · replace h := h.2 q
    refine wm_iload_n C rfl dX5_isPlain_4 ?_
    refine wm_iconst C (-1) dX5_isPlain_5 ?_ (by decide)
    refine wm_icmp_eq C 16 dX5_isPlain_6 (by decide) (fun q => ?_) (fun q => ?_)
    · replace h := h.1 q
      refine wm_iconst C 1 dX5_isPlain_16 ?_ (by decide)
      refine wm_goto C 21 dX5_isPlain_17 ?_ (by decide)
      exact wm_iret C hr rfl (Nat.le_of_ble_eq_true rfl) (Nat.le_of_ble_eq_true rfl) ⟨rfl, rfl, rfl, rfl, rfl, _, rfl, h⟩ dX5_isPlain_21
    · replace h := h.2 q
      refine wm_iload_n C rfl dX5_isPlain_9 ?_
      obtain ⟨φ1, hM2, h⟩ := h
      refine wm_cSI1 C sqX5_76 hM2 ⟨Nat.le_refl _, Nat.le_refl _⟩ (Nat.le_of_ble_eq_true rfl) ⟨Nat.le_of_ble_eq_true rfl, Nat.le_of_ble_eq_true rfl⟩ dX5_isPlain_10 (fun r3 I4 hφ9 => ?_)
      replace h := h r3 I4 hφ9
      refine wm_if_eq C 20 dX5_isPlain_13 (by decide) (fun q => ?_) (fun q => ?_)
      · replace h := h.1 q
        refine wm_iconst C 0 dX5_isPlain_20 ?_ (by decide)
        exact wm_iret C hr rfl (Nat.le_of_ble_eq_true rfl) (Nat.le_of_ble_eq_true rfl) ⟨rfl, rfl, rfl, rfl, rfl, _, rfl, h⟩ dX5_isPlain_21
      · replace h := h.2 q
        refine wm_iconst C 1 dX5_isPlain_16 ?_ (by decide)
        refine wm_goto C 21 dX5_isPlain_17 ?_ (by decide)
        exact wm_iret C hr rfl (Nat.le_of_ble_eq_true rfl) (Nat.le_of_ble_eq_true rfl) ⟨rfl, rfl, rfl, rfl, rfl, _, rfl, h⟩ dX5_isPlain_21
set_option maxRecDepth 100000 in
set_option maxHeartbeats 4000000 in
theorem sX5_isPlain {l : Launch} {G : Gx} {d : Nat} {K N : TK} {I : TI} {R : TR} {L : TL} {sz : Nat} {φ : Int32 → TI → Prop} {x0 : Int32}
    (h : ((x0 = 0 → φ 1 I) ∧ (¬ x0 = 0 → ((x0 = (-1) → φ 1 I) ∧ (¬ x0 = (-1) → ∃ φ1 : Int32 → TI → Prop, MtI l G yX5_isWord cX5_isWord 3 (some .boolean) d [.int x0] K N I R L sz φ1 ∧ ∀ (r3 : Int32) (I4 : TI), φ1 r3 I4 → ((r3 = 0 → φ 0 I4) ∧ (¬ r3 = 0 → φ 1 I4))))))) :
    MtI l G yX5_isPlain cX5_isPlain 1 (some .boolean) (d + 1) [.int x0] K N I R L sz φ :=
  MetM.of (own := RX5) (by decide) rfl (catI cat0) (Nat.le_of_ble_eq_true rfl) (fun p e s m args below meth c C hr hnm => vX5_isPlain_0 C hr h)
set_option maxRecDepth 100000 in
set_option maxHeartbeats 4000000 in
theorem vX5_isWord_0 {p : Program} {l : Launch} {e : Env} {s : State} {m : MethodId} {args : Array Value} {below : List Frame} {meth : Method} {c : Code} {G : Gx} {d : Nat} {K N : TK} {I : TI} {R : TR} {L : TL} {sz : Nat} {φ : Int32 → TI → Prop} (C : Cx p s m args meth c (AM K sz) G RX5 cX5_isWord 3) (hr : meth.sig.returnType = (some .boolean)) {x0 : Int32}
    (h : (WI p l e s m args below meth c G d φ K N R L sz 3 4 [(0, .int x0), (1, .int x0), (2, .int 0)] I)) :
    WI p l e s m args below meth c G d φ K N R L sz 3 0 [(0, .int x0)] I := by
  refine wm_iload_n C rfl dX5_isWord_0 ?_
  refine wm_istore_n C (by decide) dX5_isWord_1 ?_
  refine wm_iconst C 0 dX5_isWord_2 ?_ (by decide)
  refine wm_istore_n C (by decide) dX5_isWord_3 ?_
  exact h
set_option maxRecDepth 100000 in
set_option maxHeartbeats 4000000 in
theorem vX5_isWord_4 {p : Program} {l : Launch} {e : Env} {s : State} {m : MethodId} {args : Array Value} {below : List Frame} {meth : Method} {c : Code} {G : Gx} {d : Nat} {K N : TK} {I : TI} {R : TR} {L : TL} {sz : Nat} {φ : Int32 → TI → Prop} (C : Cx p s m args meth c (AM K sz) G RX5 cX5_isWord 3) (hr : meth.sig.returnType = (some .boolean)) {x0 : Int32} {x1 : Int32} {x2 : Int32}
    (h : ((6 ≤ x2 → ((x0 ≤ 0 → φ 0 I) ∧ (¬ x0 ≤ 0 → ((¬ x1 = 0 → φ 0 I) ∧ (x1 = 0 → φ 1 I))))) ∧ (¬ 6 ≤ x2 → ((x1 ≤ 0 → ((x0 ≤ 0 → φ 0 I) ∧ (¬ x0 ≤ 0 → ((¬ x1 = 0 → φ 0 I) ∧ (x1 = 0 → φ 1 I))))) ∧ (¬ x1 ≤ 0 → ((¬ (x1 - x1 / 27 * 27) = 0 → (WI p l e s m args below meth c G d φ K N R L sz 3 4 [(0, .int x0), (1, .int (x1 / 27)), (2, .int (x2 + 1))] I)) ∧ ((x1 - x1 / 27 * 27) = 0 → φ 0 I))))))) :
    WI p l e s m args below meth c G d φ K N R L sz 3 4 [(0, .int x0), (1, .int x1), (2, .int x2)] I := by
  refine wm_iload_n C rfl dX5_isWord_4 ?_
  refine wm_bipush C 6 dX5_isWord_5 ?_ (by decide)
  refine wm_icmp_ge C 34 dX5_isWord_7 (by decide) (fun q => ?_) (fun q => ?_)
  · replace h := h.1 q
    refine wm_iload_n C rfl dX5_isWord_34 ?_
    refine wm_if_le C 46 dX5_isWord_35 (by decide) (fun q => ?_) (fun q => ?_)
    · replace h := h.1 q
      refine wm_iconst C 0 dX5_isWord_46 ?_ (by decide)
      exact wm_iret C hr rfl (Nat.le_of_ble_eq_true rfl) (Nat.le_of_ble_eq_true rfl) ⟨rfl, rfl, rfl, rfl, rfl, _, rfl, h⟩ dX5_isWord_47
    · replace h := h.2 q
      refine wm_iload_n C rfl dX5_isWord_38 ?_
      refine wm_if_ne C 46 dX5_isWord_39 (by decide) (fun q => ?_) (fun q => ?_)
      · replace h := h.1 q
        refine wm_iconst C 0 dX5_isWord_46 ?_ (by decide)
        exact wm_iret C hr rfl (Nat.le_of_ble_eq_true rfl) (Nat.le_of_ble_eq_true rfl) ⟨rfl, rfl, rfl, rfl, rfl, _, rfl, h⟩ dX5_isWord_47
      · replace h := h.2 q
        refine wm_iconst C 1 dX5_isWord_42 ?_ (by decide)
        refine wm_goto C 47 dX5_isWord_43 ?_ (by decide)
        exact wm_iret C hr rfl (Nat.le_of_ble_eq_true rfl) (Nat.le_of_ble_eq_true rfl) ⟨rfl, rfl, rfl, rfl, rfl, _, rfl, h⟩ dX5_isWord_47
  · replace h := h.2 q
    refine wm_iload_n C rfl dX5_isWord_10 ?_
    refine wm_if_le C 34 dX5_isWord_11 (by decide) (fun q => ?_) (fun q => ?_)
    · replace h := h.1 q
      refine wm_iload_n C rfl dX5_isWord_34 ?_
      refine wm_if_le C 46 dX5_isWord_35 (by decide) (fun q => ?_) (fun q => ?_)
      · replace h := h.1 q
        refine wm_iconst C 0 dX5_isWord_46 ?_ (by decide)
        exact wm_iret C hr rfl (Nat.le_of_ble_eq_true rfl) (Nat.le_of_ble_eq_true rfl) ⟨rfl, rfl, rfl, rfl, rfl, _, rfl, h⟩ dX5_isWord_47
      · replace h := h.2 q
        refine wm_iload_n C rfl dX5_isWord_38 ?_
        refine wm_if_ne C 46 dX5_isWord_39 (by decide) (fun q => ?_) (fun q => ?_)
        · replace h := h.1 q
          refine wm_iconst C 0 dX5_isWord_46 ?_ (by decide)
          exact wm_iret C hr rfl (Nat.le_of_ble_eq_true rfl) (Nat.le_of_ble_eq_true rfl) ⟨rfl, rfl, rfl, rfl, rfl, _, rfl, h⟩ dX5_isWord_47
        · replace h := h.2 q
          refine wm_iconst C 1 dX5_isWord_42 ?_ (by decide)
          refine wm_goto C 47 dX5_isWord_43 ?_ (by decide)
          exact wm_iret C hr rfl (Nat.le_of_ble_eq_true rfl) (Nat.le_of_ble_eq_true rfl) ⟨rfl, rfl, rfl, rfl, rfl, _, rfl, h⟩ dX5_isWord_47
    · replace h := h.2 q
      refine wm_iload_n C rfl dX5_isWord_14 ?_
      refine wm_bipush C 27 dX5_isWord_15 ?_ (by decide)
      refine wm_irem C (by decide) dX5_isWord_17 ?_
      refine wm_if_ne C 23 dX5_isWord_18 (by decide) (fun q => ?_) (fun q => ?_)
      · replace h := h.1 q
        refine wm_iload_n C rfl dX5_isWord_23 ?_
        refine wm_bipush C 27 dX5_isWord_24 ?_ (by decide)
        refine wm_idiv C (by decide) dX5_isWord_26 ?_
        refine wm_istore_n C (by decide) dX5_isWord_27 ?_
        refine wm_iinc C (x2 + 1) rfl dX5_isWord_28 rfl (by decide) ?_
        refine wm_goto C 4 dX5_isWord_31 ?_ (by decide)
        exact h
      · replace h := h.2 q
        refine wm_iconst C 0 dX5_isWord_21 ?_ (by decide)
        exact wm_iret C hr rfl (Nat.le_of_ble_eq_true rfl) (Nat.le_of_ble_eq_true rfl) ⟨rfl, rfl, rfl, rfl, rfl, _, rfl, h⟩ dX5_isWord_22
set_option maxRecDepth 100000 in
set_option maxHeartbeats 4000000 in
theorem sX5_isWord {l : Launch} {G : Gx} {d : Nat} {K N : TK} {I : TI} {R : TR} {L : TL} {sz : Nat} {φ : Int32 → TI → Prop} {x0 : Int32}
    (h : ∀ (p : Program) (e : Env) (s : State) (m : MethodId) (args : Array Value) (below : List Frame) (meth : Method) (c : Code), Cx p s m args meth c (AM K sz) G RX5 cX5_isWord 3 → meth.sig.returnType = (some .boolean) → (WI p l e s m args below meth c G d φ K N R L sz 3 4 [(0, .int x0), (1, .int x0), (2, .int 0)] I)) :
    MtI l G yX5_isWord cX5_isWord 3 (some .boolean) d [.int x0] K N I R L sz φ :=
  MetM.of (own := RX5) (by decide) rfl (catI cat0) (Nat.le_of_ble_eq_true rfl) (fun p e s m args below meth c C hr hnm => vX5_isWord_0 C hr (h p e s m args below meth c C hr))
set_option maxRecDepth 100000 in
set_option maxHeartbeats 4000000 in
theorem vX5_letters_0 {p : Program} {l : Launch} {e : Env} {s : State} {m : MethodId} {args : Array Value} {below : List Frame} {meth : Method} {c : Code} {G : Gx} {d : Nat} {K N : TK} {I : TI} {R : TR} {L : TL} {sz : Nat} {φ : Int32 → TI → Prop} (C : Cx p s m args meth c (AM K sz) G RX5 cX5_letters 3) (hr : meth.sig.returnType = (some .int)) {x0 : Int32}
    (h : (WI p l e s m args below meth c G d φ K N R L sz 3 4 [(1, .int 0), (2, .int x0)] I)) :
    WI p l e s m args below meth c G d φ K N R L sz 3 0 [(0, .int x0)] I := by
  refine wm_iconst C 0 dX5_letters_0 ?_ (by decide)
  refine wm_istore_n C (by decide) dX5_letters_1 ?_
  refine wm_iload_n C rfl dX5_letters_2 ?_
  refine wm_istore_n C (by decide) dX5_letters_3 ?_
  exact wm_pick [1, 2] rfl h
set_option maxRecDepth 100000 in
set_option maxHeartbeats 4000000 in
theorem vX5_letters_4 {p : Program} {l : Launch} {e : Env} {s : State} {m : MethodId} {args : Array Value} {below : List Frame} {meth : Method} {c : Code} {G : Gx} {d : Nat} {K N : TK} {I : TI} {R : TR} {L : TL} {sz : Nat} {φ : Int32 → TI → Prop} (C : Cx p s m args meth c (AM K sz) G RX5 cX5_letters 3) (hr : meth.sig.returnType = (some .int)) {x1 : Int32} {x2 : Int32}
    (h : ((x2 ≤ 0 → φ x1 I) ∧ (¬ x2 ≤ 0 → ((6 ≤ x1 → φ x1 I) ∧ (¬ 6 ≤ x1 → (WI p l e s m args below meth c G d φ K N R L sz 3 4 [(1, .int (x1 + 1)), (2, .int (x2 / 27))] I)))))) :
    WI p l e s m args below meth c G d φ K N R L sz 3 4 [(1, .int x1), (2, .int x2)] I := by
  refine wm_iload_n C rfl dX5_letters_4 ?_
  refine wm_if_le C 25 dX5_letters_5 (by decide) (fun q => ?_) (fun q => ?_)
  · replace h := h.1 q
    refine wm_iload_n C rfl dX5_letters_25 ?_
    exact wm_iret C hr rfl (Nat.le_of_ble_eq_true rfl) (Nat.le_of_ble_eq_true rfl) ⟨rfl, rfl, rfl, rfl, rfl, _, rfl, h⟩ dX5_letters_26
  · replace h := h.2 q
    refine wm_iload_n C rfl dX5_letters_8 ?_
    refine wm_bipush C 6 dX5_letters_9 ?_ (by decide)
    refine wm_icmp_ge C 25 dX5_letters_11 (by decide) (fun q => ?_) (fun q => ?_)
    · replace h := h.1 q
      refine wm_iload_n C rfl dX5_letters_25 ?_
      exact wm_iret C hr rfl (Nat.le_of_ble_eq_true rfl) (Nat.le_of_ble_eq_true rfl) ⟨rfl, rfl, rfl, rfl, rfl, _, rfl, h⟩ dX5_letters_26
    · replace h := h.2 q
      refine wm_iinc C (x1 + 1) rfl dX5_letters_14 rfl (by decide) ?_
      refine wm_iload_n C rfl dX5_letters_17 ?_
      refine wm_bipush C 27 dX5_letters_18 ?_ (by decide)
      refine wm_idiv C (by decide) dX5_letters_20 ?_
      refine wm_istore_n C (by decide) dX5_letters_21 ?_
      refine wm_goto C 4 dX5_letters_22 ?_ (by decide)
      exact h
set_option maxRecDepth 100000 in
set_option maxHeartbeats 4000000 in
theorem sX5_letters {l : Launch} {G : Gx} {d : Nat} {K N : TK} {I : TI} {R : TR} {L : TL} {sz : Nat} {φ : Int32 → TI → Prop} {x0 : Int32}
    (h : ∀ (p : Program) (e : Env) (s : State) (m : MethodId) (args : Array Value) (below : List Frame) (meth : Method) (c : Code), Cx p s m args meth c (AM K sz) G RX5 cX5_letters 3 → meth.sig.returnType = (some .int) → (WI p l e s m args below meth c G d φ K N R L sz 3 4 [(1, .int 0), (2, .int x0)] I)) :
    MtI l G yX5_letters cX5_letters 3 (some .int) d [.int x0] K N I R L sz φ :=
  MetM.of (own := RX5) (by decide) rfl (catI cat0) (Nat.le_of_ble_eq_true rfl) (fun p e s m args below meth c C hr hnm => vX5_letters_0 C hr (h p e s m args below meth c C hr))
set_option maxRecDepth 100000 in
set_option maxHeartbeats 4000000 in
theorem vX5_power_0 {p : Program} {l : Launch} {e : Env} {s : State} {m : MethodId} {args : Array Value} {below : List Frame} {meth : Method} {c : Code} {G : Gx} {d : Nat} {K N : TK} {I : TI} {R : TR} {L : TL} {sz : Nat} {φ : Int32 → TI → Prop} (C : Cx p s m args meth c (AM K sz) G RX5 cX5_power 3) (hr : meth.sig.returnType = (some .int)) {x0 : Int32}
    (h : (WI p l e s m args below meth c G d φ K N R L sz 3 4 [(0, .int x0), (1, .int 1), (2, .int 0)] I)) :
    WI p l e s m args below meth c G d φ K N R L sz 3 0 [(0, .int x0)] I := by
  refine wm_iconst C 1 dX5_power_0 ?_ (by decide)
  refine wm_istore_n C (by decide) dX5_power_1 ?_
  refine wm_iconst C 0 dX5_power_2 ?_ (by decide)
  refine wm_istore_n C (by decide) dX5_power_3 ?_
  exact h
set_option maxRecDepth 100000 in
set_option maxHeartbeats 4000000 in
theorem vX5_power_4 {p : Program} {l : Launch} {e : Env} {s : State} {m : MethodId} {args : Array Value} {below : List Frame} {meth : Method} {c : Code} {G : Gx} {d : Nat} {K N : TK} {I : TI} {R : TR} {L : TL} {sz : Nat} {φ : Int32 → TI → Prop} (C : Cx p s m args meth c (AM K sz) G RX5 cX5_power 3) (hr : meth.sig.returnType = (some .int)) {x0 : Int32} {x1 : Int32} {x2 : Int32}
    (h : ((x0 ≤ x2 → φ x1 I) ∧ (¬ x0 ≤ x2 → ((6 ≤ x2 → φ x1 I) ∧ (¬ 6 ≤ x2 → (WI p l e s m args below meth c G d φ K N R L sz 3 4 [(0, .int x0), (1, .int (x1 * 27)), (2, .int (x2 + 1))] I)))))) :
    WI p l e s m args below meth c G d φ K N R L sz 3 4 [(0, .int x0), (1, .int x1), (2, .int x2)] I := by
  refine wm_iload_n C rfl dX5_power_4 ?_
  refine wm_iload_n C rfl dX5_power_5 ?_
  refine wm_icmp_ge C 26 dX5_power_6 (by decide) (fun q => ?_) (fun q => ?_)
  · replace h := h.1 q
    refine wm_iload_n C rfl dX5_power_26 ?_
    exact wm_iret C hr rfl (Nat.le_of_ble_eq_true rfl) (Nat.le_of_ble_eq_true rfl) ⟨rfl, rfl, rfl, rfl, rfl, _, rfl, h⟩ dX5_power_27
  · replace h := h.2 q
    refine wm_iload_n C rfl dX5_power_9 ?_
    refine wm_bipush C 6 dX5_power_10 ?_ (by decide)
    refine wm_icmp_ge C 26 dX5_power_12 (by decide) (fun q => ?_) (fun q => ?_)
    · replace h := h.1 q
      refine wm_iload_n C rfl dX5_power_26 ?_
      exact wm_iret C hr rfl (Nat.le_of_ble_eq_true rfl) (Nat.le_of_ble_eq_true rfl) ⟨rfl, rfl, rfl, rfl, rfl, _, rfl, h⟩ dX5_power_27
    · replace h := h.2 q
      refine wm_iload_n C rfl dX5_power_15 ?_
      refine wm_bipush C 27 dX5_power_16 ?_ (by decide)
      refine wm_imul C dX5_power_18 ?_
      refine wm_istore_n C (by decide) dX5_power_19 ?_
      refine wm_iinc C (x2 + 1) rfl dX5_power_20 rfl (by decide) ?_
      refine wm_goto C 4 dX5_power_23 ?_ (by decide)
      exact h
set_option maxRecDepth 100000 in
set_option maxHeartbeats 4000000 in
theorem sX5_power {l : Launch} {G : Gx} {d : Nat} {K N : TK} {I : TI} {R : TR} {L : TL} {sz : Nat} {φ : Int32 → TI → Prop} {x0 : Int32}
    (h : ∀ (p : Program) (e : Env) (s : State) (m : MethodId) (args : Array Value) (below : List Frame) (meth : Method) (c : Code), Cx p s m args meth c (AM K sz) G RX5 cX5_power 3 → meth.sig.returnType = (some .int) → (WI p l e s m args below meth c G d φ K N R L sz 3 4 [(0, .int x0), (1, .int 1), (2, .int 0)] I)) :
    MtI l G yX5_power cX5_power 3 (some .int) d [.int x0] K N I R L sz φ :=
  MetM.of (own := RX5) (by decide) rfl (catI cat0) (Nat.le_of_ble_eq_true rfl) (fun p e s m args below meth c C hr hnm => vX5_power_0 C hr (h p e s m args below meth c C hr))
set_option maxRecDepth 100000 in
set_option maxHeartbeats 4000000 in
theorem vX5_withoutLast_0 {p : Program} {l : Launch} {e : Env} {s : State} {m : MethodId} {args : Array Value} {below : List Frame} {meth : Method} {c : Code} {G : Gx} {d : Nat} {K N : TK} {I : TI} {R : TR} {L : TL} {sz : Nat} {φ : Int32 → TI → Prop} (C : Cx p s m args meth c (AM K sz) G RX5 cX5_withoutLast 4) (hr : meth.sig.returnType = (some .int)) {x0 : Int32} {x1 : Int32}
    (h : (WI p l e s m args below meth c G d φ K N R L sz 4 4 [(1, .int x1), (2, .int x0), (3, .int 0)] I)) :
    WI p l e s m args below meth c G d φ K N R L sz 4 0 [(0, .int x0), (1, .int x1)] I := by
  refine wm_iload_n C rfl dX5_withoutLast_0 ?_
  refine wm_istore_n C (by decide) dX5_withoutLast_1 ?_
  refine wm_iconst C 0 dX5_withoutLast_2 ?_ (by decide)
  refine wm_istore_n C (by decide) dX5_withoutLast_3 ?_
  exact wm_pick [1, 2, 3] rfl h
set_option maxRecDepth 100000 in
set_option maxHeartbeats 4000000 in
theorem vX5_withoutLast_4 {p : Program} {l : Launch} {e : Env} {s : State} {m : MethodId} {args : Array Value} {below : List Frame} {meth : Method} {c : Code} {G : Gx} {d : Nat} {K N : TK} {I : TI} {R : TR} {L : TL} {sz : Nat} {φ : Int32 → TI → Prop} (C : Cx p s m args meth c (AM K sz) G RX5 cX5_withoutLast 4) (hr : meth.sig.returnType = (some .int)) {x1 : Int32} {x2 : Int32} {x3 : Int32}
    (h : ((x1 ≤ x3 → φ x2 I) ∧ (¬ x1 ≤ x3 → ((6 ≤ x3 → φ x2 I) ∧ (¬ 6 ≤ x3 → (WI p l e s m args below meth c G d φ K N R L sz 4 4 [(1, .int x1), (2, .int (x2 / 27)), (3, .int (x3 + 1))] I)))))) :
    WI p l e s m args below meth c G d φ K N R L sz 4 4 [(1, .int x1), (2, .int x2), (3, .int x3)] I := by
  refine wm_iload_n C rfl dX5_withoutLast_4 ?_
  refine wm_iload_n C rfl dX5_withoutLast_5 ?_
  refine wm_icmp_ge C 26 dX5_withoutLast_6 (by decide) (fun q => ?_) (fun q => ?_)
  · replace h := h.1 q
    refine wm_iload_n C rfl dX5_withoutLast_26 ?_
    exact wm_iret C hr rfl (Nat.le_of_ble_eq_true rfl) (Nat.le_of_ble_eq_true rfl) ⟨rfl, rfl, rfl, rfl, rfl, _, rfl, h⟩ dX5_withoutLast_27
  · replace h := h.2 q
    refine wm_iload_n C rfl dX5_withoutLast_9 ?_
    refine wm_bipush C 6 dX5_withoutLast_10 ?_ (by decide)
    refine wm_icmp_ge C 26 dX5_withoutLast_12 (by decide) (fun q => ?_) (fun q => ?_)
    · replace h := h.1 q
      refine wm_iload_n C rfl dX5_withoutLast_26 ?_
      exact wm_iret C hr rfl (Nat.le_of_ble_eq_true rfl) (Nat.le_of_ble_eq_true rfl) ⟨rfl, rfl, rfl, rfl, rfl, _, rfl, h⟩ dX5_withoutLast_27
    · replace h := h.2 q
      refine wm_iload_n C rfl dX5_withoutLast_15 ?_
      refine wm_bipush C 27 dX5_withoutLast_16 ?_ (by decide)
      refine wm_idiv C (by decide) dX5_withoutLast_18 ?_
      refine wm_istore_n C (by decide) dX5_withoutLast_19 ?_
      refine wm_iinc C (x3 + 1) rfl dX5_withoutLast_20 rfl (by decide) ?_
      refine wm_goto C 4 dX5_withoutLast_23 ?_ (by decide)
      exact h
set_option maxRecDepth 100000 in
set_option maxHeartbeats 4000000 in
theorem sX5_withoutLast {l : Launch} {G : Gx} {d : Nat} {K N : TK} {I : TI} {R : TR} {L : TL} {sz : Nat} {φ : Int32 → TI → Prop} {x0 : Int32} {x1 : Int32}
    (h : ∀ (p : Program) (e : Env) (s : State) (m : MethodId) (args : Array Value) (below : List Frame) (meth : Method) (c : Code), Cx p s m args meth c (AM K sz) G RX5 cX5_withoutLast 4 → meth.sig.returnType = (some .int) → (WI p l e s m args below meth c G d φ K N R L sz 4 4 [(1, .int x1), (2, .int x0), (3, .int 0)] I)) :
    MtI l G yX5_withoutLast cX5_withoutLast 4 (some .int) d [.int x0, .int x1] K N I R L sz φ :=
  MetM.of (own := RX5) (by decide) rfl (catI (catI cat0)) (Nat.le_of_ble_eq_true rfl) (fun p e s m args below meth c C hr hnm => vX5_withoutLast_0 C hr (h p e s m args below meth c C hr))
set_option maxRecDepth 100000 in
set_option maxHeartbeats 4000000 in
theorem vX5_lastOf_0 {p : Program} {l : Launch} {e : Env} {s : State} {m : MethodId} {args : Array Value} {below : List Frame} {meth : Method} {c : Code} {G : Gx} {d : Nat} {K N : TK} {I : TI} {R : TR} {L : TL} {sz : Nat} {φ : Int32 → TI → Prop} (C : Cx p s m args meth c (AM K sz) G RX5 cX5_lastOf 6) (hr : meth.sig.returnType = (some .int)) {x0 : Int32} {x1 : Int32}
    (h : (WI p l e s m args below meth c G d φ K N R L sz 6 10 [(1, .int x1), (2, .int 0), (3, .int 1), (4, .int x0), (5, .int 0)] I)) :
    WI p l e s m args below meth c G d φ K N R L sz 6 0 [(0, .int x0), (1, .int x1)] I := by
  refine wm_iconst C 0 dX5_lastOf_0 ?_ (by decide)
  refine wm_istore_n C (by decide) dX5_lastOf_1 ?_
  refine wm_iconst C 1 dX5_lastOf_2 ?_ (by decide)
  refine wm_istore_n C (by decide) dX5_lastOf_3 ?_
  refine wm_iload_n C rfl dX5_lastOf_4 ?_
  refine wm_istore C (by decide) dX5_lastOf_5 ?_
  refine wm_iconst C 0 dX5_lastOf_7 ?_ (by decide)
  refine wm_istore C (by decide) dX5_lastOf_8 ?_
  exact wm_pick [1, 2, 3, 4, 5] rfl h
set_option maxRecDepth 100000 in
set_option maxHeartbeats 4000000 in
theorem vX5_lastOf_10 {p : Program} {l : Launch} {e : Env} {s : State} {m : MethodId} {args : Array Value} {below : List Frame} {meth : Method} {c : Code} {G : Gx} {d : Nat} {K N : TK} {I : TI} {R : TR} {L : TL} {sz : Nat} {φ : Int32 → TI → Prop} (C : Cx p s m args meth c (AM K sz) G RX5 cX5_lastOf 6) (hr : meth.sig.returnType = (some .int)) {x1 : Int32} {x2 : Int32} {x3 : Int32} {x4 : Int32} {x5 : Int32}
    (h : ((x1 ≤ x5 → φ x2 I) ∧ (¬ x1 ≤ x5 → ((6 ≤ x5 → φ x2 I) ∧ (¬ 6 ≤ x5 → (WI p l e s m args below meth c G d φ K N R L sz 6 10 [(1, .int x1), (2, .int (x2 + ((x4 - x4 / 27 * 27) * x3))), (3, .int (x3 * 27)), (4, .int (x4 / 27)), (5, .int (x5 + 1))] I)))))) :
    WI p l e s m args below meth c G d φ K N R L sz 6 10 [(1, .int x1), (2, .int x2), (3, .int x3), (4, .int x4), (5, .int x5)] I := by
  refine wm_iload C rfl dX5_lastOf_10 ?_
  refine wm_iload_n C rfl dX5_lastOf_12 ?_
  refine wm_icmp_ge C 51 dX5_lastOf_13 (by decide) (fun q => ?_) (fun q => ?_)
  · replace h := h.1 q
    refine wm_iload_n C rfl dX5_lastOf_51 ?_
    exact wm_iret C hr rfl (Nat.le_of_ble_eq_true rfl) (Nat.le_of_ble_eq_true rfl) ⟨rfl, rfl, rfl, rfl, rfl, _, rfl, h⟩ dX5_lastOf_52
  · replace h := h.2 q
    refine wm_iload C rfl dX5_lastOf_16 ?_
    refine wm_bipush C 6 dX5_lastOf_18 ?_ (by decide)
    refine wm_icmp_ge C 51 dX5_lastOf_20 (by decide) (fun q => ?_) (fun q => ?_)
    · replace h := h.1 q
      refine wm_iload_n C rfl dX5_lastOf_51 ?_
      exact wm_iret C hr rfl (Nat.le_of_ble_eq_true rfl) (Nat.le_of_ble_eq_true rfl) ⟨rfl, rfl, rfl, rfl, rfl, _, rfl, h⟩ dX5_lastOf_52
    · replace h := h.2 q
      refine wm_iload_n C rfl dX5_lastOf_23 ?_
      refine wm_iload C rfl dX5_lastOf_24 ?_
      refine wm_bipush C 27 dX5_lastOf_26 ?_ (by decide)
      refine wm_irem C (by decide) dX5_lastOf_28 ?_
      refine wm_iload_n C rfl dX5_lastOf_29 ?_
      refine wm_imul C dX5_lastOf_30 ?_
      refine wm_iadd C dX5_lastOf_31 ?_
      refine wm_istore_n C (by decide) dX5_lastOf_32 ?_
      refine wm_iload_n C rfl dX5_lastOf_33 ?_
      refine wm_bipush C 27 dX5_lastOf_34 ?_ (by decide)
      refine wm_imul C dX5_lastOf_36 ?_
      refine wm_istore_n C (by decide) dX5_lastOf_37 ?_
      refine wm_iload C rfl dX5_lastOf_38 ?_
      refine wm_bipush C 27 dX5_lastOf_40 ?_ (by decide)
      refine wm_idiv C (by decide) dX5_lastOf_42 ?_
      refine wm_istore C (by decide) dX5_lastOf_43 ?_
      refine wm_iinc C (x5 + 1) rfl dX5_lastOf_45 rfl (by decide) ?_
      refine wm_goto C 10 dX5_lastOf_48 ?_ (by decide)
      exact h
set_option maxRecDepth 100000 in
set_option maxHeartbeats 4000000 in
theorem sX5_lastOf {l : Launch} {G : Gx} {d : Nat} {K N : TK} {I : TI} {R : TR} {L : TL} {sz : Nat} {φ : Int32 → TI → Prop} {x0 : Int32} {x1 : Int32}
    (h : ∀ (p : Program) (e : Env) (s : State) (m : MethodId) (args : Array Value) (below : List Frame) (meth : Method) (c : Code), Cx p s m args meth c (AM K sz) G RX5 cX5_lastOf 6 → meth.sig.returnType = (some .int) → (WI p l e s m args below meth c G d φ K N R L sz 6 10 [(1, .int x1), (2, .int 0), (3, .int 1), (4, .int x0), (5, .int 0)] I)) :
    MtI l G yX5_lastOf cX5_lastOf 6 (some .int) d [.int x0, .int x1] K N I R L sz φ :=
  MetM.of (own := RX5) (by decide) rfl (catI (catI cat0)) (Nat.le_of_ble_eq_true rfl) (fun p e s m args below meth c C hr hnm => vX5_lastOf_0 C hr (h p e s m args below meth c C hr))
