set_option maxRecDepth 100000 in
set_option maxHeartbeats 4000000 in
theorem vX6_again_0 {p : Program} {l : Launch} {e : Env} {s : State} {m : MethodId} {args : Array Value} {below : List Frame} {meth : Method} {c : Code} {G : Gx} {d : Nat} {K N : TK} {I : TI} {R : TR} {L : TL} {sz : Nat} {φ : Int32 → TI → Prop} (C : Cx p s m args meth c (AM K sz) G RX6 cX6_again 3) (hr : meth.sig.returnType = (some .boolean)) {a0 : Nat} {x1 : Int32} {x2 : Int32}
    (h : K a0 = 17 ∧ ∃ b2, R a0 17 = some b2 ∧ K b2 = 20 ∧ vp_in x2 (N b2) ∧ ∃ b6, R a0 18 = some b6 ∧ K b6 = 20 ∧ vp_in x2 (N b6) ∧ ∃ b10, R a0 19 = some b10 ∧ K b10 = 20 ∧ vp_in x2 (N b10) ∧ ∃ b14, R a0 20 = some b14 ∧ K b14 = 20 ∧ vp_in x2 (N b14) ∧ ∃ b18, R a0 21 = some b18 ∧ K b18 = 20 ∧ vp_in x2 (N b18) ∧ ∃ b22, R a0 22 = some b22 ∧ K b22 = 20 ∧ vp_in x2 (N b22) ∧ ∃ φ26 : Int32 → TI → Prop, MtI l G yX6_put cX6_put 9 (some .boolean) d [.ref a0, .int x1, .int (I b2 (Int32.toNatClampNeg x2)), .int (I b6 (Int32.toNatClampNeg x2)), .int (I b10 (Int32.toNatClampNeg x2)), .int (I b14 (Int32.toNatClampNeg x2)), .int (I b18 (Int32.toNatClampNeg x2)), .int (I b22 (Int32.toNatClampNeg x2))] K N I R L sz φ26 ∧ ∀ (r28 : Int32) (I29 : TI), φ26 r28 I29 → (r28 = 0 ∨ r28 = 1) ∧ φ r28 I29) :
    WI p l e s m args below meth c G (d + 1) φ K N R L sz 3 0 [(0, .ref a0), (1, .int x1), (2, .int x2)] I := by
  refine wm_aload_n C rfl dX6_again_0 ?_
  refine wm_iload_n C rfl dX6_again_1 ?_
  refine wm_aload_n C rfl dX6_again_2 ?_
  obtain ⟨hk1, h⟩ := h
  obtain ⟨b2, hr3, h⟩ := h
  refine wm_getR C fqX6_50 hk1 hr3 dX6_again_3 ?_
  refine wm_iload_n C rfl dX6_again_6 ?_
  obtain ⟨hk4, h⟩ := h
  obtain ⟨hi5, h⟩ := h
  refine wm_iald C hk4 hi5 dX6_again_7 ?_
  refine wm_aload_n C rfl dX6_again_8 ?_
  obtain ⟨b6, hr7, h⟩ := h
  refine wm_getR C fqX6_53 hk1 hr7 dX6_again_9 ?_
  refine wm_iload_n C rfl dX6_again_12 ?_
  obtain ⟨hk8, h⟩ := h
  obtain ⟨hi9, h⟩ := h
  refine wm_iald C hk8 hi9 dX6_again_13 ?_
  refine wm_aload_n C rfl dX6_again_14 ?_
  obtain ⟨b10, hr11, h⟩ := h
  refine wm_getR C fqX6_56 hk1 hr11 dX6_again_15 ?_
  refine wm_iload_n C rfl dX6_again_18 ?_
  obtain ⟨hk12, h⟩ := h
  obtain ⟨hi13, h⟩ := h
  refine wm_iald C hk12 hi13 dX6_again_19 ?_
  refine wm_aload_n C rfl dX6_again_20 ?_
  obtain ⟨b14, hr15, h⟩ := h
  refine wm_getR C fqX6_59 hk1 hr15 dX6_again_21 ?_
  refine wm_iload_n C rfl dX6_again_24 ?_
  obtain ⟨hk16, h⟩ := h
  obtain ⟨hi17, h⟩ := h
  refine wm_iald C hk16 hi17 dX6_again_25 ?_
  refine wm_aload_n C rfl dX6_again_26 ?_
  obtain ⟨b18, hr19, h⟩ := h
  refine wm_getR C fqX6_62 hk1 hr19 dX6_again_27 ?_
  refine wm_iload_n C rfl dX6_again_30 ?_
  obtain ⟨hk20, h⟩ := h
  obtain ⟨hi21, h⟩ := h
  refine wm_iald C hk20 hi21 dX6_again_31 ?_
  refine wm_aload_n C rfl dX6_again_32 ?_
  obtain ⟨b22, hr23, h⟩ := h
  refine wm_getR C fqX6_65 hk1 hr23 dX6_again_33 ?_
  refine wm_iload_n C rfl dX6_again_36 ?_
  obtain ⟨hk24, h⟩ := h
  obtain ⟨hi25, h⟩ := h
  refine wm_iald C hk24 hi25 dX6_again_37 ?_
  obtain ⟨φ26, hM27, h⟩ := h
  refine wm_cVI7 C vqX6_115 hM27 hk1 ⟨Nat.le_refl _, Nat.le_refl _⟩ (Nat.le_of_ble_eq_true rfl) ⟨Nat.le_of_ble_eq_true rfl, Nat.le_of_ble_eq_true rfl⟩ dX6_again_38 (fun r28 I29 hφ34 => ?_)
  replace h := h r28 I29 hφ34
  exact wm_iret C hr (nrz h.1) (Nat.le_of_ble_eq_true rfl) (Nat.le_of_ble_eq_true rfl) ⟨rfl, rfl, rfl, rfl, rfl, _, rfl, h.2⟩ dX6_again_41
set_option maxRecDepth 100000 in
set_option maxHeartbeats 4000000 in
theorem sX6_again {l : Launch} {G : Gx} {d : Nat} {K N : TK} {I : TI} {R : TR} {L : TL} {sz : Nat} {φ : Int32 → TI → Prop} {a0 : Nat} {x1 : Int32} {x2 : Int32}
    (h : K a0 = 17 ∧ ∃ b2, R a0 17 = some b2 ∧ K b2 = 20 ∧ vp_in x2 (N b2) ∧ ∃ b6, R a0 18 = some b6 ∧ K b6 = 20 ∧ vp_in x2 (N b6) ∧ ∃ b10, R a0 19 = some b10 ∧ K b10 = 20 ∧ vp_in x2 (N b10) ∧ ∃ b14, R a0 20 = some b14 ∧ K b14 = 20 ∧ vp_in x2 (N b14) ∧ ∃ b18, R a0 21 = some b18 ∧ K b18 = 20 ∧ vp_in x2 (N b18) ∧ ∃ b22, R a0 22 = some b22 ∧ K b22 = 20 ∧ vp_in x2 (N b22) ∧ ∃ φ26 : Int32 → TI → Prop, MtI l G yX6_put cX6_put 9 (some .boolean) d [.ref a0, .int x1, .int (I b2 (Int32.toNatClampNeg x2)), .int (I b6 (Int32.toNatClampNeg x2)), .int (I b10 (Int32.toNatClampNeg x2)), .int (I b14 (Int32.toNatClampNeg x2)), .int (I b18 (Int32.toNatClampNeg x2)), .int (I b22 (Int32.toNatClampNeg x2))] K N I R L sz φ26 ∧ ∀ (r28 : Int32) (I29 : TI), φ26 r28 I29 → (r28 = 0 ∨ r28 = 1) ∧ φ r28 I29) :
    MtI l G yX6_again cX6_again 3 (some .boolean) (d + 1) [.ref a0, .int x1, .int x2] K N I R L sz φ :=
  MetM.of (own := RX6) (by decide) rfl (catR (catI (catI cat0))) (Nat.le_of_ble_eq_true rfl) (fun p e s m args below meth c C hr hnm => vX6_again_0 C hr h)
set_option maxRecDepth 100000 in
set_option maxHeartbeats 4000000 in
theorem vX6_letters_0 {p : Program} {l : Launch} {e : Env} {s : State} {m : MethodId} {args : Array Value} {below : List Frame} {meth : Method} {c : Code} {G : Gx} {d : Nat} {K N : TK} {I : TI} {R : TR} {L : TL} {sz : Nat} {φ : Int32 → TI → Prop} (C : Cx p s m args meth c (AM K sz) G RX6 cX6_letters 3) (hr : meth.sig.returnType = (some .int)) {x0 : Int32}
    (h : (WI p l e s m args below meth c G d φ K N R L sz 3 4 [(1, .int 0), (2, .int x0)] I)) :
    WI p l e s m args below meth c G d φ K N R L sz 3 0 [(0, .int x0)] I := by
  refine wm_iconst C 0 dX6_letters_0 ?_ (by decide)
  refine wm_istore_n C (by decide) dX6_letters_1 ?_
  refine wm_iload_n C rfl dX6_letters_2 ?_
  refine wm_istore_n C (by decide) dX6_letters_3 ?_
  exact wm_pick [1, 2] rfl h
set_option maxRecDepth 100000 in
set_option maxHeartbeats 4000000 in
theorem vX6_letters_4 {p : Program} {l : Launch} {e : Env} {s : State} {m : MethodId} {args : Array Value} {below : List Frame} {meth : Method} {c : Code} {G : Gx} {d : Nat} {K N : TK} {I : TI} {R : TR} {L : TL} {sz : Nat} {φ : Int32 → TI → Prop} (C : Cx p s m args meth c (AM K sz) G RX6 cX6_letters 3) (hr : meth.sig.returnType = (some .int)) {x1 : Int32} {x2 : Int32}
    (h : ((x2 ≤ 0 → φ x1 I) ∧ (¬ x2 ≤ 0 → (WI p l e s m args below meth c G d φ K N R L sz 3 4 [(1, .int (x1 + 1)), (2, .int (x2 / 27))] I)))) :
    WI p l e s m args below meth c G d φ K N R L sz 3 4 [(1, .int x1), (2, .int x2)] I := by
  refine wm_iload_n C rfl dX6_letters_4 ?_
  refine wm_if_le C 19 dX6_letters_5 (by decide) (fun q => ?_) (fun q => ?_)
  · replace h := h.1 q
    refine wm_iload_n C rfl dX6_letters_19 ?_
    exact wm_iret C hr rfl (Nat.le_of_ble_eq_true rfl) (Nat.le_of_ble_eq_true rfl) ⟨rfl, rfl, rfl, rfl, rfl, _, rfl, h⟩ dX6_letters_20
  · replace h := h.2 q
    refine wm_iinc C (x1 + 1) rfl dX6_letters_8 rfl (by decide) ?_
    refine wm_iload_n C rfl dX6_letters_11 ?_
    refine wm_bipush C 27 dX6_letters_12 ?_ (by decide)
    refine wm_idiv C (by decide) dX6_letters_14 ?_
    refine wm_istore_n C (by decide) dX6_letters_15 ?_
    refine wm_goto C 4 dX6_letters_16 ?_ (by decide)
    exact h
set_option maxRecDepth 100000 in
set_option maxHeartbeats 4000000 in
theorem sX6_letters {l : Launch} {G : Gx} {d : Nat} {K N : TK} {I : TI} {R : TR} {L : TL} {sz : Nat} {φ : Int32 → TI → Prop} {x0 : Int32}
    (h : ∀ (p : Program) (e : Env) (s : State) (m : MethodId) (args : Array Value) (below : List Frame) (meth : Method) (c : Code), Cx p s m args meth c (AM K sz) G RX6 cX6_letters 3 → meth.sig.returnType = (some .int) → (WI p l e s m args below meth c G d φ K N R L sz 3 4 [(1, .int 0), (2, .int x0)] I)) :
    MtI l G yX6_letters cX6_letters 3 (some .int) d [.int x0] K N I R L sz φ :=
  MetM.of (own := RX6) (by decide) rfl (catI cat0) (Nat.le_of_ble_eq_true rfl) (fun p e s m args below meth c C hr hnm => vX6_letters_0 C hr (h p e s m args below meth c C hr))
set_option maxRecDepth 100000 in
set_option maxHeartbeats 4000000 in
theorem vX6_power_0 {p : Program} {l : Launch} {e : Env} {s : State} {m : MethodId} {args : Array Value} {below : List Frame} {meth : Method} {c : Code} {G : Gx} {d : Nat} {K N : TK} {I : TI} {R : TR} {L : TL} {sz : Nat} {φ : Int32 → TI → Prop} (C : Cx p s m args meth c (AM K sz) G RX6 cX6_power 3) (hr : meth.sig.returnType = (some .int)) {x0 : Int32}
    (h : (WI p l e s m args below meth c G d φ K N R L sz 3 4 [(0, .int x0), (1, .int 1), (2, .int 0)] I)) :
    WI p l e s m args below meth c G d φ K N R L sz 3 0 [(0, .int x0)] I := by
  refine wm_iconst C 1 dX6_power_0 ?_ (by decide)
  refine wm_istore_n C (by decide) dX6_power_1 ?_
  refine wm_iconst C 0 dX6_power_2 ?_ (by decide)
  refine wm_istore_n C (by decide) dX6_power_3 ?_
  exact h
set_option maxRecDepth 100000 in
set_option maxHeartbeats 4000000 in
theorem vX6_power_4 {p : Program} {l : Launch} {e : Env} {s : State} {m : MethodId} {args : Array Value} {below : List Frame} {meth : Method} {c : Code} {G : Gx} {d : Nat} {K N : TK} {I : TI} {R : TR} {L : TL} {sz : Nat} {φ : Int32 → TI → Prop} (C : Cx p s m args meth c (AM K sz) G RX6 cX6_power 3) (hr : meth.sig.returnType = (some .int)) {x0 : Int32} {x1 : Int32} {x2 : Int32}
    (h : ((x0 ≤ x2 → φ x1 I) ∧ (¬ x0 ≤ x2 → (WI p l e s m args below meth c G d φ K N R L sz 3 4 [(0, .int x0), (1, .int (x1 * 27)), (2, .int (x2 + 1))] I)))) :
    WI p l e s m args below meth c G d φ K N R L sz 3 4 [(0, .int x0), (1, .int x1), (2, .int x2)] I := by
  refine wm_iload_n C rfl dX6_power_4 ?_
  refine wm_iload_n C rfl dX6_power_5 ?_
  refine wm_icmp_ge C 20 dX6_power_6 (by decide) (fun q => ?_) (fun q => ?_)
  · replace h := h.1 q
    refine wm_iload_n C rfl dX6_power_20 ?_
    exact wm_iret C hr rfl (Nat.le_of_ble_eq_true rfl) (Nat.le_of_ble_eq_true rfl) ⟨rfl, rfl, rfl, rfl, rfl, _, rfl, h⟩ dX6_power_21
  · replace h := h.2 q
    refine wm_iload_n C rfl dX6_power_9 ?_
    refine wm_bipush C 27 dX6_power_10 ?_ (by decide)
    refine wm_imul C dX6_power_12 ?_
    refine wm_istore_n C (by decide) dX6_power_13 ?_
    refine wm_iinc C (x2 + 1) rfl dX6_power_14 rfl (by decide) ?_
    refine wm_goto C 4 dX6_power_17 ?_ (by decide)
    exact h
set_option maxRecDepth 100000 in
set_option maxHeartbeats 4000000 in
theorem sX6_power {l : Launch} {G : Gx} {d : Nat} {K N : TK} {I : TI} {R : TR} {L : TL} {sz : Nat} {φ : Int32 → TI → Prop} {x0 : Int32}
    (h : ∀ (p : Program) (e : Env) (s : State) (m : MethodId) (args : Array Value) (below : List Frame) (meth : Method) (c : Code), Cx p s m args meth c (AM K sz) G RX6 cX6_power 3 → meth.sig.returnType = (some .int) → (WI p l e s m args below meth c G d φ K N R L sz 3 4 [(0, .int x0), (1, .int 1), (2, .int 0)] I)) :
    MtI l G yX6_power cX6_power 3 (some .int) d [.int x0] K N I R L sz φ :=
  MetM.of (own := RX6) (by decide) rfl (catI cat0) (Nat.le_of_ble_eq_true rfl) (fun p e s m args below meth c C hr hnm => vX6_power_0 C hr (h p e s m args below meth c C hr))
set_option maxRecDepth 100000 in
set_option maxHeartbeats 4000000 in
theorem vX6_behind_0 {p : Program} {l : Launch} {e : Env} {s : State} {m : MethodId} {args : Array Value} {below : List Frame} {meth : Method} {c : Code} {G : Gx} {d : Nat} {K N : TK} {I : TI} {R : TR} {L : TL} {sz : Nat} {φ : Int32 → TI → Prop} (C : Cx p s m args meth c (AM K sz) G RX6 cX6_behind 6) (hr : meth.sig.returnType = (some .int)) {a0 : Nat} {x1 : Int32} {x2 : Int32} {x3 : Int32}
    (h : (WI p l e s m args below meth c G d φ K N R L sz 6 6 [(0, .ref a0), (1, .int x1), (3, .int x3), (4, .int x2), (5, .int 0)] I)) :
    WI p l e s m args below meth c G d φ K N R L sz 6 0 [(0, .ref a0), (1, .int x1), (2, .int x2), (3, .int x3)] I := by
  refine wm_iload_n C rfl dX6_behind_0 ?_
  refine wm_istore C (by decide) dX6_behind_1 ?_
  refine wm_iconst C 0 dX6_behind_3 ?_ (by decide)
  refine wm_istore C (by decide) dX6_behind_4 ?_
  exact wm_pick [0, 1, 3, 4, 5] rfl h
set_option maxRecDepth 100000 in
set_option maxHeartbeats 4000000 in
theorem vX6_behind_6 {p : Program} {l : Launch} {e : Env} {s : State} {m : MethodId} {args : Array Value} {below : List Frame} {meth : Method} {c : Code} {G : Gx} {d : Nat} {K N : TK} {I : TI} {R : TR} {L : TL} {sz : Nat} {φ : Int32 → TI → Prop} (C : Cx p s m args meth c (AM K sz) G RX6 cX6_behind 6) (hr : meth.sig.returnType = (some .int)) {a0 : Nat} {x1 : Int32} {x3 : Int32} {x4 : Int32} {x5 : Int32}
    (h : K a0 = 17 ∧ ∃ b2, R a0 13 = some b2 ∧ K b2 = 20 ∧ vp_in x1 (N b2) ∧ (((I b2 (Int32.toNatClampNeg x1)) ≤ x5 → φ x4 I) ∧ (¬ (I b2 (Int32.toNatClampNeg x1)) ≤ x5 → (WI p l e s m args below meth c G d φ K N R L sz 6 17 [(0, .ref a0), (1, .int x1), (3, .int x3), (4, .int x4), (5, .int x5)] I)))) :
    WI p l e s m args below meth c G d φ K N R L sz 6 6 [(0, .ref a0), (1, .int x1), (3, .int x3), (4, .int x4), (5, .int x5)] I := by
  refine wm_iload C rfl dX6_behind_6 ?_
  refine wm_aload_n C rfl dX6_behind_8 ?_
  obtain ⟨hk1, h⟩ := h
  obtain ⟨b2, hr3, h⟩ := h
  refine wm_getR C fqX6_38 hk1 hr3 dX6_behind_9 ?_
  refine wm_iload_n C rfl dX6_behind_12 ?_
  obtain ⟨hk4, h⟩ := h
  obtain ⟨hi5, h⟩ := h
  refine wm_iald C hk4 hi5 dX6_behind_13 ?_
  refine wm_icmp_ge C 97 dX6_behind_14 (by decide) (fun q => ?_) (fun q => ?_)
  · replace h := h.1 q
    refine wm_iload C rfl dX6_behind_97 ?_
    exact wm_iret C hr rfl (Nat.le_of_ble_eq_true rfl) (Nat.le_of_ble_eq_true rfl) ⟨rfl, rfl, rfl, rfl, rfl, _, rfl, h⟩ dX6_behind_99
  · replace h := h.2 q
    exact h
set_option maxRecDepth 100000 in
set_option maxHeartbeats 4000000 in
theorem vX6_behind_17 {p : Program} {l : Launch} {e : Env} {s : State} {m : MethodId} {args : Array Value} {below : List Frame} {meth : Method} {c : Code} {G : Gx} {d : Nat} {K N : TK} {I : TI} {R : TR} {L : TL} {sz : Nat} {φ : Int32 → TI → Prop} (C : Cx p s m args meth c (AM K sz) G RX6 cX6_behind 6) (hr : meth.sig.returnType = (some .int)) {a0 : Nat} {x1 : Int32} {x3 : Int32} {x4 : Int32} {x5 : Int32}
    (h : ((x5 ≤ 0 → ((x4 = x3 → φ 0 I) ∧ (¬ x4 = x3 → K a0 = 17 ∧ ∃ b2, R a0 17 = some b2 ∧ K b2 = 20 ∧ vp_in x4 (N b2) ∧ ∃ b6, R a0 15 = some b6 ∧ K b6 = 20 ∧ vp_in (((10 * x1) - 10) + x5) (N b6) ∧ (((I b2 (Int32.toNatClampNeg x4)) = (I b6 (Int32.toNatClampNeg (((10 * x1) - 10) + x5))) → (WI p l e s m args below meth c G d φ K N R L sz 6 6 [(0, .ref a0), (1, .int x1), (3, .int x3), (4, .int (x4 + 1)), (5, .int (x5 + 1))] I)) ∧ (¬ (I b2 (Int32.toNatClampNeg x4)) = (I b6 (Int32.toNatClampNeg (((10 * x1) - 10) + x5))) → φ 0 I))))) ∧ (¬ x5 ≤ 0 → ((x3 ≤ x4 → ((x4 = x3 → φ 0 I) ∧ (¬ x4 = x3 → K a0 = 17 ∧ ∃ b11, R a0 17 = some b11 ∧ K b11 = 20 ∧ vp_in x4 (N b11) ∧ ∃ b15, R a0 15 = some b15 ∧ K b15 = 20 ∧ vp_in (((10 * x1) - 10) + x5) (N b15) ∧ (((I b11 (Int32.toNatClampNeg x4)) = (I b15 (Int32.toNatClampNeg (((10 * x1) - 10) + x5))) → (WI p l e s m args below meth c G d φ K N R L sz 6 6 [(0, .ref a0), (1, .int x1), (3, .int x3), (4, .int (x4 + 1)), (5, .int (x5 + 1))] I)) ∧ (¬ (I b11 (Int32.toNatClampNeg x4)) = (I b15 (Int32.toNatClampNeg (((10 * x1) - 10) + x5))) → φ 0 I))))) ∧ (¬ x3 ≤ x4 → K a0 = 17 ∧ ∃ b20, R a0 17 = some b20 ∧ K b20 = 20 ∧ vp_in x4 (N b20) ∧ (((I b20 (Int32.toNatClampNeg x4)) = 0 → (WI p l e s m args below meth c G d φ K N R L sz 6 17 [(0, .ref a0), (1, .int x1), (3, .int x3), (4, .int (x4 + 1)), (5, .int x5)] I)) ∧ (¬ (I b20 (Int32.toNatClampNeg x4)) = 0 → ((¬ (I b20 (Int32.toNatClampNeg x4)) = (-1) → ((x4 = x3 → φ 0 I) ∧ (¬ x4 = x3 → ∃ b24, R a0 15 = some b24 ∧ K b24 = 20 ∧ vp_in (((10 * x1) - 10) + x5) (N b24) ∧ (((I b20 (Int32.toNatClampNeg x4)) = (I b24 (Int32.toNatClampNeg (((10 * x1) - 10) + x5))) → (WI p l e s m args below meth c G d φ K N R L sz 6 6 [(0, .ref a0), (1, .int x1), (3, .int x3), (4, .int (x4 + 1)), (5, .int (x5 + 1))] I)) ∧ (¬ (I b20 (Int32.toNatClampNeg x4)) = (I b24 (Int32.toNatClampNeg (((10 * x1) - 10) + x5))) → φ 0 I))))) ∧ ((I b20 (Int32.toNatClampNeg x4)) = (-1) → (WI p l e s m args below meth c G d φ K N R L sz 6 17 [(0, .ref a0), (1, .int x1), (3, .int x3), (4, .int (x4 + 1)), (5, .int x5)] I)))))))))) :
    WI p l e s m args below meth c G d φ K N R L sz 6 17 [(0, .ref a0), (1, .int x1), (3, .int x3), (4, .int x4), (5, .int x5)] I := by
  refine wm_iload C rfl dX6_behind_17 ?_
  refine wm_if_le C 55 dX6_behind_19 (by decide) (fun q => ?_) (fun q => ?_)
  · replace h := h.1 q
    refine wm_iload C rfl dX6_behind_55 ?_
    refine wm_iload_n C rfl dX6_behind_57 ?_
    refine wm_icmp_eq C 86 dX6_behind_58 (by decide) (fun q => ?_) (fun q => ?_)
    · replace h := h.1 q
      refine wm_iconst C 0 dX6_behind_86 ?_ (by decide)
      exact wm_iret C hr rfl (Nat.le_of_ble_eq_true rfl) (Nat.le_of_ble_eq_true rfl) ⟨rfl, rfl, rfl, rfl, rfl, _, rfl, h⟩ dX6_behind_87
    · replace h := h.2 q
      refine wm_aload_n C rfl dX6_behind_61 ?_
      obtain ⟨hk1, h⟩ := h
      obtain ⟨b2, hr3, h⟩ := h
      refine wm_getR C fqX6_50 hk1 hr3 dX6_behind_62 ?_
      refine wm_iload C rfl dX6_behind_65 ?_
      obtain ⟨hk4, h⟩ := h
      obtain ⟨hi5, h⟩ := h
      refine wm_iald C hk4 hi5 dX6_behind_67 ?_
      refine wm_aload_n C rfl dX6_behind_68 ?_
      obtain ⟨b6, hr7, h⟩ := h
      refine wm_getR C fqX6_44 hk1 hr7 dX6_behind_69 ?_
      refine wm_bipush C 10 dX6_behind_72 ?_ (by decide)
      refine wm_iload_n C rfl dX6_behind_74 ?_
      refine wm_imul C dX6_behind_75 ?_
      refine wm_bipush C 10 dX6_behind_76 ?_ (by decide)
      refine wm_isub C dX6_behind_78 ?_
      refine wm_iload C rfl dX6_behind_79 ?_
      refine wm_iadd C dX6_behind_81 ?_
      obtain ⟨hk8, h⟩ := h
      obtain ⟨hi9, h⟩ := h
      refine wm_iald C hk8 hi9 dX6_behind_82 ?_
      refine wm_icmp_eq C 88 dX6_behind_83 (by decide) (fun q => ?_) (fun q => ?_)
      · replace h := h.1 q
        refine wm_iinc C (x4 + 1) rfl dX6_behind_88 rfl (by decide) ?_
        refine wm_iinc C (x5 + 1) rfl dX6_behind_91 rfl (by decide) ?_
        refine wm_goto C 6 dX6_behind_94 ?_ (by decide)
        exact h
      · replace h := h.2 q
        refine wm_iconst C 0 dX6_behind_86 ?_ (by decide)
        exact wm_iret C hr rfl (Nat.le_of_ble_eq_true rfl) (Nat.le_of_ble_eq_true rfl) ⟨rfl, rfl, rfl, rfl, rfl, _, rfl, h⟩ dX6_behind_87
  · replace h := h.2 q
    refine wm_iload C rfl dX6_behind_22 ?_
    refine wm_iload_n C rfl dX6_behind_24 ?_
    refine wm_icmp_ge C 55 dX6_behind_25 (by decide) (fun q => ?_) (fun q => ?_)
    · replace h := h.1 q
      refine wm_iload C rfl dX6_behind_55 ?_
      refine wm_iload_n C rfl dX6_behind_57 ?_
      refine wm_icmp_eq C 86 dX6_behind_58 (by decide) (fun q => ?_) (fun q => ?_)
      · replace h := h.1 q
        refine wm_iconst C 0 dX6_behind_86 ?_ (by decide)
        exact wm_iret C hr rfl (Nat.le_of_ble_eq_true rfl) (Nat.le_of_ble_eq_true rfl) ⟨rfl, rfl, rfl, rfl, rfl, _, rfl, h⟩ dX6_behind_87
      · replace h := h.2 q
        refine wm_aload_n C rfl dX6_behind_61 ?_
        obtain ⟨hk10, h⟩ := h
        obtain ⟨b11, hr12, h⟩ := h
        refine wm_getR C fqX6_50 hk10 hr12 dX6_behind_62 ?_
        refine wm_iload C rfl dX6_behind_65 ?_
        obtain ⟨hk13, h⟩ := h
        obtain ⟨hi14, h⟩ := h
        refine wm_iald C hk13 hi14 dX6_behind_67 ?_
        refine wm_aload_n C rfl dX6_behind_68 ?_
        obtain ⟨b15, hr16, h⟩ := h
        refine wm_getR C fqX6_44 hk10 hr16 dX6_behind_69 ?_
        refine wm_bipush C 10 dX6_behind_72 ?_ (by decide)
        refine wm_iload_n C rfl dX6_behind_74 ?_
        refine wm_imul C dX6_behind_75 ?_
        refine wm_bipush C 10 dX6_behind_76 ?_ (by decide)
        refine wm_isub C dX6_behind_78 ?_
        refine wm_iload C rfl dX6_behind_79 ?_
        refine wm_iadd C dX6_behind_81 ?_
        obtain ⟨hk17, h⟩ := h
        obtain ⟨hi18, h⟩ := h
        refine wm_iald C hk17 hi18 dX6_behind_82 ?_
        refine wm_icmp_eq C 88 dX6_behind_83 (by decide) (fun q => ?_) (fun q => ?_)
        · replace h := h.1 q
          refine wm_iinc C (x4 + 1) rfl dX6_behind_88 rfl (by decide) ?_
          refine wm_iinc C (x5 + 1) rfl dX6_behind_91 rfl (by decide) ?_
          refine wm_goto C 6 dX6_behind_94 ?_ (by decide)
          exact h
        · replace h := h.2 q
          refine wm_iconst C 0 dX6_behind_86 ?_ (by decide)
          exact wm_iret C hr rfl (Nat.le_of_ble_eq_true rfl) (Nat.le_of_ble_eq_true rfl) ⟨rfl, rfl, rfl, rfl, rfl, _, rfl, h⟩ dX6_behind_87
    · replace h := h.2 q
      refine wm_aload_n C rfl dX6_behind_28 ?_
      obtain ⟨hk19, h⟩ := h
      obtain ⟨b20, hr21, h⟩ := h
      refine wm_getR C fqX6_50 hk19 hr21 dX6_behind_29 ?_
      refine wm_iload C rfl dX6_behind_32 ?_
      obtain ⟨hk22, h⟩ := h
      obtain ⟨hi23, h⟩ := h
      refine wm_iald C hk22 hi23 dX6_behind_34 ?_
      refine wm_if_eq C 49 dX6_behind_35 (by decide) (fun q => ?_) (fun q => ?_)
      · replace h := h.1 q
        refine wm_iinc C (x4 + 1) rfl dX6_behind_49 rfl (by decide) ?_
        refine wm_goto C 17 dX6_behind_52 ?_ (by decide)
        exact h
      · replace h := h.2 q
        refine wm_aload_n C rfl dX6_behind_38 ?_
        refine wm_getR C fqX6_50 hk19 hr21 dX6_behind_39 ?_
        refine wm_iload C rfl dX6_behind_42 ?_
        refine wm_iald C hk22 hi23 dX6_behind_44 ?_
        refine wm_iconst C (-1) dX6_behind_45 ?_ (by decide)
        refine wm_icmp_ne C 55 dX6_behind_46 (by decide) (fun q => ?_) (fun q => ?_)
        · replace h := h.1 q
          refine wm_iload C rfl dX6_behind_55 ?_
          refine wm_iload_n C rfl dX6_behind_57 ?_
          refine wm_icmp_eq C 86 dX6_behind_58 (by decide) (fun q => ?_) (fun q => ?_)
          · replace h := h.1 q
            refine wm_iconst C 0 dX6_behind_86 ?_ (by decide)
            exact wm_iret C hr rfl (Nat.le_of_ble_eq_true rfl) (Nat.le_of_ble_eq_true rfl) ⟨rfl, rfl, rfl, rfl, rfl, _, rfl, h⟩ dX6_behind_87
          · replace h := h.2 q
            refine wm_aload_n C rfl dX6_behind_61 ?_
            refine wm_getR C fqX6_50 hk19 hr21 dX6_behind_62 ?_
            refine wm_iload C rfl dX6_behind_65 ?_
            refine wm_iald C hk22 hi23 dX6_behind_67 ?_
            refine wm_aload_n C rfl dX6_behind_68 ?_
            obtain ⟨b24, hr25, h⟩ := h
            refine wm_getR C fqX6_44 hk19 hr25 dX6_behind_69 ?_
            refine wm_bipush C 10 dX6_behind_72 ?_ (by decide)
            refine wm_iload_n C rfl dX6_behind_74 ?_
            refine wm_imul C dX6_behind_75 ?_
            refine wm_bipush C 10 dX6_behind_76 ?_ (by decide)
            refine wm_isub C dX6_behind_78 ?_
            refine wm_iload C rfl dX6_behind_79 ?_
            refine wm_iadd C dX6_behind_81 ?_
            obtain ⟨hk26, h⟩ := h
            obtain ⟨hi27, h⟩ := h
            refine wm_iald C hk26 hi27 dX6_behind_82 ?_
            refine wm_icmp_eq C 88 dX6_behind_83 (by decide) (fun q => ?_) (fun q => ?_)
            · replace h := h.1 q
              refine wm_iinc C (x4 + 1) rfl dX6_behind_88 rfl (by decide) ?_
              refine wm_iinc C (x5 + 1) rfl dX6_behind_91 rfl (by decide) ?_
              refine wm_goto C 6 dX6_behind_94 ?_ (by decide)
              exact h
            · replace h := h.2 q
              refine wm_iconst C 0 dX6_behind_86 ?_ (by decide)
              exact wm_iret C hr rfl (Nat.le_of_ble_eq_true rfl) (Nat.le_of_ble_eq_true rfl) ⟨rfl, rfl, rfl, rfl, rfl, _, rfl, h⟩ dX6_behind_87
        · replace h := h.2 q
          refine wm_iinc C (x4 + 1) rfl dX6_behind_49 rfl (by decide) ?_
          refine wm_goto C 17 dX6_behind_52 ?_ (by decide)
          exact h
set_option maxRecDepth 100000 in
set_option maxHeartbeats 4000000 in
theorem sX6_behind {l : Launch} {G : Gx} {d : Nat} {K N : TK} {I : TI} {R : TR} {L : TL} {sz : Nat} {φ : Int32 → TI → Prop} {a0 : Nat} {x1 : Int32} {x2 : Int32} {x3 : Int32}
    (h : ∀ (p : Program) (e : Env) (s : State) (m : MethodId) (args : Array Value) (below : List Frame) (meth : Method) (c : Code), Cx p s m args meth c (AM K sz) G RX6 cX6_behind 6 → meth.sig.returnType = (some .int) → (WI p l e s m args below meth c G d φ K N R L sz 6 6 [(0, .ref a0), (1, .int x1), (3, .int x3), (4, .int x2), (5, .int 0)] I)) :
    MtI l G yX6_behind cX6_behind 6 (some .int) d [.ref a0, .int x1, .int x2, .int x3] K N I R L sz φ :=
  MetM.of (own := RX6) (by decide) rfl (catR (catI (catI (catI cat0)))) (Nat.le_of_ble_eq_true rfl) (fun p e s m args below meth c C hr hnm => vX6_behind_0 C hr (h p e s m args below meth c C hr))
set_option maxRecDepth 100000 in
set_option maxHeartbeats 4000000 in
theorem vX6_hasPart_0 {p : Program} {l : Launch} {e : Env} {s : State} {m : MethodId} {args : Array Value} {below : List Frame} {meth : Method} {c : Code} {G : Gx} {d : Nat} {K N : TK} {I : TI} {R : TR} {L : TL} {sz : Nat} {φ : Int32 → TI → Prop} (C : Cx p s m args meth c (AM K sz) G RX6 cX6_hasPart 5) (hr : meth.sig.returnType = (some .boolean)) {a0 : Nat} {x1 : Int32} {x2 : Int32}
    (h : K a0 = 17 ∧ ∃ b2, R a0 15 = some b2 ∧ K b2 = 20 ∧ vp_in ((10 * x1) - 10) (N b2) ∧ ∃ φ6 : Int32 → TI → Prop, MtI l G yX6_letters cX6_letters 3 (some .int) d [.int x2] K N I R L sz φ6 ∧ ∀ (r8 : Int32) (I9 : TI), φ6 r8 I9 → ∃ φ15 : Int32 → TI → Prop, MtI l G yX6_letters cX6_letters 3 (some .int) d [.int (I b2 (Int32.toNatClampNeg ((10 * x1) - 10)))] K N I9 R L sz φ15 ∧ ∀ (r17 : Int32) (I18 : TI), φ15 r17 I18 → ((1 ≤ (r8 - r17) → ∃ b24, R a0 12 = some b24 ∧ K b24 = 20 ∧ vp_in x1 (N b24) ∧ ((¬ (I18 b24 (Int32.toNatClampNeg x1)) = 1 → ∃ φ28 : Int32 → TI → Prop, MtI l G yX6_letters cX6_letters 3 (some .int) d [.int (I b2 (Int32.toNatClampNeg ((10 * x1) - 10)))] K N I18 R L sz φ28 ∧ ∀ (r30 : Int32) (I31 : TI), φ28 r30 I31 → ∃ φ37 : Int32 → TI → Prop, MtI l G yX6_power cX6_power 3 (some .int) d [.int r30] K N I31 R L sz φ37 ∧ ∀ (r39 : Int32) (I40 : TI), φ37 r39 I40 → ¬ r39 = 0 ∧ ((¬ (x2 - x2 / r39 * r39) = (I b2 (Int32.toNatClampNeg ((10 * x1) - 10))) → φ 0 I40) ∧ ((x2 - x2 / r39 * r39) = (I b2 (Int32.toNatClampNeg ((10 * x1) - 10))) → φ 1 I40))) ∧ ((I18 b24 (Int32.toNatClampNeg x1)) = 1 → ∃ φ47 : Int32 → TI → Prop, MtI l G yX6_power cX6_power 3 (some .int) d [.int (r8 - r17)] K N I18 R L sz φ47 ∧ ∀ (r49 : Int32) (I50 : TI), φ47 r49 I50 → ¬ r49 = 0 ∧ ((¬ (x2 / r49) = (I b2 (Int32.toNatClampNeg ((10 * x1) - 10))) → φ 0 I50) ∧ ((x2 / r49) = (I b2 (Int32.toNatClampNeg ((10 * x1) - 10))) → φ 1 I50))))) ∧ (¬ 1 ≤ (r8 - r17) → φ 0 I18))) :
    WI p l e s m args below meth c G (d + 1) φ K N R L sz 5 0 [(0, .ref a0), (1, .int x1), (2, .int x2)] I := by
  refine wm_aload_n C rfl dX6_hasPart_0 ?_
  obtain ⟨hk1, h⟩ := h
  obtain ⟨b2, hr3, h⟩ := h
  refine wm_getR C fqX6_44 hk1 hr3 dX6_hasPart_1 ?_
  refine wm_bipush C 10 dX6_hasPart_4 ?_ (by decide)
  refine wm_iload_n C rfl dX6_hasPart_6 ?_
  refine wm_imul C dX6_hasPart_7 ?_
  refine wm_bipush C 10 dX6_hasPart_8 ?_ (by decide)
  refine wm_isub C dX6_hasPart_10 ?_
  obtain ⟨hk4, h⟩ := h
  obtain ⟨hi5, h⟩ := h
  refine wm_iald C hk4 hi5 dX6_hasPart_11 ?_
  refine wm_istore_n C (by decide) dX6_hasPart_12 ?_
  refine wm_iload_n C rfl dX6_hasPart_13 ?_
  obtain ⟨φ6, hM7, h⟩ := h
  refine wm_cSI1 C sqX6_119 hM7 ⟨Nat.le_refl _, Nat.le_refl _⟩ (Nat.le_of_ble_eq_true rfl) ⟨Nat.le_of_ble_eq_true rfl, Nat.le_of_ble_eq_true rfl⟩ dX6_hasPart_14 (fun r8 I9 hφ14 => ?_)
  replace h := h r8 I9 hφ14
  refine wm_iload_n C rfl dX6_hasPart_17 ?_
  obtain ⟨φ15, hM16, h⟩ := h
  refine wm_cSI1 C sqX6_119 hM16 ⟨Nat.le_refl _, Nat.le_refl _⟩ (Nat.le_of_ble_eq_true rfl) ⟨Nat.le_of_ble_eq_true rfl, Nat.le_of_ble_eq_true rfl⟩ dX6_hasPart_18 (fun r17 I18 hφ23 => ?_)
  replace h := h r17 I18 hφ23
  refine wm_isub C dX6_hasPart_21 ?_
  refine wm_istore C (by decide) dX6_hasPart_22 ?_
  refine wm_iload C rfl dX6_hasPart_24 ?_
  refine wm_iconst C 1 dX6_hasPart_26 ?_ (by decide)
  refine wm_icmp_ge C 32 dX6_hasPart_27 (by decide) (fun q => ?_) (fun q => ?_)
  · replace h := h.1 q
    refine wm_aload_n C rfl dX6_hasPart_32 ?_
    obtain ⟨b24, hr25, h⟩ := h
    refine wm_getR C fqX6_35 hk1 hr25 dX6_hasPart_33 ?_
    refine wm_iload_n C rfl dX6_hasPart_36 ?_
    obtain ⟨hk26, h⟩ := h
    obtain ⟨hi27, h⟩ := h
    refine wm_iald C hk26 hi27 dX6_hasPart_37 ?_
    refine wm_iconst C 1 dX6_hasPart_38 ?_ (by decide)
    refine wm_icmp_ne C 61 dX6_hasPart_39 (by decide) (fun q => ?_) (fun q => ?_)
    · replace h := h.1 q
      refine wm_iload_n C rfl dX6_hasPart_61 ?_
      refine wm_iload_n C rfl dX6_hasPart_62 ?_
      obtain ⟨φ28, hM29, h⟩ := h
      refine wm_cSI1 C sqX6_119 hM29 ⟨Nat.le_refl _, Nat.le_refl _⟩ (Nat.le_of_ble_eq_true rfl) ⟨Nat.le_of_ble_eq_true rfl, Nat.le_of_ble_eq_true rfl⟩ dX6_hasPart_63 (fun r30 I31 hφ36 => ?_)
      replace h := h r30 I31 hφ36
      obtain ⟨φ37, hM38, h⟩ := h
      refine wm_cSI1 C sqX6_123 hM38 ⟨Nat.le_refl _, Nat.le_refl _⟩ (Nat.le_of_ble_eq_true rfl) ⟨Nat.le_of_ble_eq_true rfl, Nat.le_of_ble_eq_true rfl⟩ dX6_hasPart_66 (fun r39 I40 hφ45 => ?_)
      replace h := h r39 I40 hφ45
      obtain ⟨hz46, h⟩ := h
      refine wm_irem C hz46 dX6_hasPart_69 ?_
      refine wm_iload_n C rfl dX6_hasPart_70 ?_
      refine wm_icmp_ne C 78 dX6_hasPart_71 (by decide) (fun q => ?_) (fun q => ?_)
      · replace h := h.1 q
        refine wm_iconst C 0 dX6_hasPart_78 ?_ (by decide)
        exact wm_iret C hr rfl (Nat.le_of_ble_eq_true rfl) (Nat.le_of_ble_eq_true rfl) ⟨rfl, rfl, rfl, rfl, rfl, _, rfl, h⟩ dX6_hasPart_79
      · replace h := h.2 q
        refine wm_iconst C 1 dX6_hasPart_74 ?_ (by decide)
        refine wm_goto C 79 dX6_hasPart_75 ?_ (by decide)
        exact wm_iret C hr rfl (Nat.le_of_ble_eq_true rfl) (Nat.le_of_ble_eq_true rfl) ⟨rfl, rfl, rfl, rfl, rfl, _, rfl, h⟩ dX6_hasPart_79
    · replace h := h.2 q
      refine wm_iload_n C rfl dX6_hasPart_42 ?_
      refine wm_iload C rfl dX6_hasPart_43 ?_
      obtain ⟨φ47, hM48, h⟩ := h
      refine wm_cSI1 C sqX6_123 hM48 ⟨Nat.le_refl _, Nat.le_refl _⟩ (Nat.le_of_ble_eq_true rfl) ⟨Nat.le_of_ble_eq_true rfl, Nat.le_of_ble_eq_true rfl⟩ dX6_hasPart_45 (fun r49 I50 hφ55 => ?_)
      replace h := h r49 I50 hφ55
      obtain ⟨hz56, h⟩ := h
      refine wm_idiv C hz56 dX6_hasPart_48 ?_
      refine wm_iload_n C rfl dX6_hasPart_49 ?_
      refine wm_icmp_ne C 57 dX6_hasPart_50 (by decide) (fun q => ?_) (fun q => ?_)
      · replace h := h.1 q
        refine wm_iconst C 0 dX6_hasPart_57 ?_ (by decide)
        refine wm_goto C 79 dX6_hasPart_58 ?_ (by decide)
        exact wm_iret C hr rfl (Nat.le_of_ble_eq_true rfl) (Nat.le_of_ble_eq_true rfl) ⟨rfl, rfl, rfl, rfl, rfl, _, rfl, h⟩ dX6_hasPart_79
      · replace h := h.2 q
        refine wm_iconst C 1 dX6_hasPart_53 ?_ (by decide)
        refine wm_goto C 79 dX6_hasPart_54 ?_ (by decide)
        exact wm_iret C hr rfl (Nat.le_of_ble_eq_true rfl) (Nat.le_of_ble_eq_true rfl) ⟨rfl, rfl, rfl, rfl, rfl, _, rfl, h⟩ dX6_hasPart_79
  · replace h := h.2 q
    refine wm_iconst C 0 dX6_hasPart_30 ?_ (by decide)
    exact wm_iret C hr rfl (Nat.le_of_ble_eq_true rfl) (Nat.le_of_ble_eq_true rfl) ⟨rfl, rfl, rfl, rfl, rfl, _, rfl, h⟩ dX6_hasPart_31
set_option maxRecDepth 100000 in
set_option maxHeartbeats 4000000 in
theorem sX6_hasPart {l : Launch} {G : Gx} {d : Nat} {K N : TK} {I : TI} {R : TR} {L : TL} {sz : Nat} {φ : Int32 → TI → Prop} {a0 : Nat} {x1 : Int32} {x2 : Int32}
    (h : K a0 = 17 ∧ ∃ b2, R a0 15 = some b2 ∧ K b2 = 20 ∧ vp_in ((10 * x1) - 10) (N b2) ∧ ∃ φ6 : Int32 → TI → Prop, MtI l G yX6_letters cX6_letters 3 (some .int) d [.int x2] K N I R L sz φ6 ∧ ∀ (r8 : Int32) (I9 : TI), φ6 r8 I9 → ∃ φ15 : Int32 → TI → Prop, MtI l G yX6_letters cX6_letters 3 (some .int) d [.int (I b2 (Int32.toNatClampNeg ((10 * x1) - 10)))] K N I9 R L sz φ15 ∧ ∀ (r17 : Int32) (I18 : TI), φ15 r17 I18 → ((1 ≤ (r8 - r17) → ∃ b24, R a0 12 = some b24 ∧ K b24 = 20 ∧ vp_in x1 (N b24) ∧ ((¬ (I18 b24 (Int32.toNatClampNeg x1)) = 1 → ∃ φ28 : Int32 → TI → Prop, MtI l G yX6_letters cX6_letters 3 (some .int) d [.int (I b2 (Int32.toNatClampNeg ((10 * x1) - 10)))] K N I18 R L sz φ28 ∧ ∀ (r30 : Int32) (I31 : TI), φ28 r30 I31 → ∃ φ37 : Int32 → TI → Prop, MtI l G yX6_power cX6_power 3 (some .int) d [.int r30] K N I31 R L sz φ37 ∧ ∀ (r39 : Int32) (I40 : TI), φ37 r39 I40 → ¬ r39 = 0 ∧ ((¬ (x2 - x2 / r39 * r39) = (I b2 (Int32.toNatClampNeg ((10 * x1) - 10))) → φ 0 I40) ∧ ((x2 - x2 / r39 * r39) = (I b2 (Int32.toNatClampNeg ((10 * x1) - 10))) → φ 1 I40))) ∧ ((I18 b24 (Int32.toNatClampNeg x1)) = 1 → ∃ φ47 : Int32 → TI → Prop, MtI l G yX6_power cX6_power 3 (some .int) d [.int (r8 - r17)] K N I18 R L sz φ47 ∧ ∀ (r49 : Int32) (I50 : TI), φ47 r49 I50 → ¬ r49 = 0 ∧ ((¬ (x2 / r49) = (I b2 (Int32.toNatClampNeg ((10 * x1) - 10))) → φ 0 I50) ∧ ((x2 / r49) = (I b2 (Int32.toNatClampNeg ((10 * x1) - 10))) → φ 1 I50))))) ∧ (¬ 1 ≤ (r8 - r17) → φ 0 I18))) :
    MtI l G yX6_hasPart cX6_hasPart 5 (some .boolean) (d + 1) [.ref a0, .int x1, .int x2] K N I R L sz φ :=
  MetM.of (own := RX6) (by decide) rfl (catR (catI (catI cat0))) (Nat.le_of_ble_eq_true rfl) (fun p e s m args below meth c C hr hnm => vX6_hasPart_0 C hr h)
set_option maxRecDepth 100000 in
set_option maxHeartbeats 4000000 in
theorem vX6_changed_0 {p : Program} {l : Launch} {e : Env} {s : State} {m : MethodId} {args : Array Value} {below : List Frame} {meth : Method} {c : Code} {G : Gx} {d : Nat} {K N : TK} {I : TI} {R : TR} {L : TL} {sz : Nat} {φ : Int32 → TI → Prop} (C : Cx p s m args meth c (AM K sz) G RX6 cX6_changed 6) (hr : meth.sig.returnType = (some .int)) {a0 : Nat} {x1 : Int32} {x2 : Int32}
    (h : K a0 = 17 ∧ ∃ b2, R a0 15 = some b2 ∧ K b2 = 20 ∧ vp_in ((10 * x1) - 10) (N b2) ∧ ∃ φ6 : Int32 → TI → Prop, MtI l G yX6_letters cX6_letters 3 (some .int) d [.int (I b2 (Int32.toNatClampNeg ((10 * x1) - 10)))] K N I R L sz φ6 ∧ ∀ (r8 : Int32) (I9 : TI), φ6 r8 I9 → ∃ φ15 : Int32 → TI → Prop, MtI l G yX6_letters cX6_letters 3 (some .int) d [.int x2] K N I9 R L sz φ15 ∧ ∀ (r17 : Int32) (I18 : TI), φ15 r17 I18 → ∃ b24, R a0 14 = some b24 ∧ K b24 = 20 ∧ vp_in x1 (N b24) ∧ (((I18 b24 (Int32.toNatClampNeg x1)) ≤ 0 → ∃ φ28 : Int32 → TI → Prop, MtI l G yX6_letters cX6_letters 3 (some .int) d [.int 0] K N I18 R L sz φ28 ∧ ∀ (r30 : Int32) (I31 : TI), φ28 r30 I31 → ((((r17 - r8) + r30) ≤ 6 → ∃ b37, R a0 12 = some b37 ∧ K b37 = 20 ∧ vp_in x1 (N b37) ∧ ((¬ (I31 b37 (Int32.toNatClampNeg x1)) = 1 → ∃ φ41 : Int32 → TI → Prop, MtI l G yX6_power cX6_power 3 (some .int) d [.int r8] K N I31 R L sz φ41 ∧ ∀ (r43 : Int32) (I44 : TI), φ41 r43 I44 → ¬ r43 = 0 ∧ ∃ φ51 : Int32 → TI → Prop, MtI l G yX6_letters cX6_letters 3 (some .int) d [.int 0] K N I44 R L sz φ51 ∧ ∀ (r53 : Int32) (I54 : TI), φ51 r53 I54 → ∃ φ60 : Int32 → TI → Prop, MtI l G yX6_power cX6_power 3 (some .int) d [.int r53] K N I54 R L sz φ60 ∧ ∀ (r62 : Int32) (I63 : TI), φ60 r62 I63 → φ (((x2 / r43) * r62) + 0) I63) ∧ ((I31 b37 (Int32.toNatClampNeg x1)) = 1 → ∃ φ69 : Int32 → TI → Prop, MtI l G yX6_power cX6_power 3 (some .int) d [.int (r17 - r8)] K N I31 R L sz φ69 ∧ ∀ (r71 : Int32) (I72 : TI), φ69 r71 I72 → ∃ φ78 : Int32 → TI → Prop, MtI l G yX6_power cX6_power 3 (some .int) d [.int (r17 - r8)] K N I72 R L sz φ78 ∧ ∀ (r80 : Int32) (I81 : TI), φ78 r80 I81 → ¬ r80 = 0 ∧ φ ((0 * r71) + (x2 - x2 / r80 * r80)) I81))) ∧ (¬ ((r17 - r8) + r30) ≤ 6 → φ 0 I31))) ∧ (¬ (I18 b24 (Int32.toNatClampNeg x1)) ≤ 0 → ∃ b88, R a0 16 = some b88 ∧ K b88 = 20 ∧ vp_in ((10 * x1) - 10) (N b88) ∧ ∃ φ92 : Int32 → TI → Prop, MtI l G yX6_letters cX6_letters 3 (some .int) d [.int (I18 b88 (Int32.toNatClampNeg ((10 * x1) - 10)))] K N I18 R L sz φ92 ∧ ∀ (r94 : Int32) (I95 : TI), φ92 r94 I95 → ((((r17 - r8) + r94) ≤ 6 → ∃ b101, R a0 12 = some b101 ∧ K b101 = 20 ∧ vp_in x1 (N b101) ∧ ((¬ (I95 b101 (Int32.toNatClampNeg x1)) = 1 → ∃ φ105 : Int32 → TI → Prop, MtI l G yX6_power cX6_power 3 (some .int) d [.int r8] K N I95 R L sz φ105 ∧ ∀ (r107 : Int32) (I108 : TI), φ105 r107 I108 → ¬ r107 = 0 ∧ ∃ φ115 : Int32 → TI → Prop, MtI l G yX6_letters cX6_letters 3 (some .int) d [.int (I18 b88 (Int32.toNatClampNeg ((10 * x1) - 10)))] K N I108 R L sz φ115 ∧ ∀ (r117 : Int32) (I118 : TI), φ115 r117 I118 → ∃ φ124 : Int32 → TI → Prop, MtI l G yX6_power cX6_power 3 (some .int) d [.int r117] K N I118 R L sz φ124 ∧ ∀ (r126 : Int32) (I127 : TI), φ124 r126 I127 → φ (((x2 / r107) * r126) + (I18 b88 (Int32.toNatClampNeg ((10 * x1) - 10)))) I127) ∧ ((I95 b101 (Int32.toNatClampNeg x1)) = 1 → ∃ φ133 : Int32 → TI → Prop, MtI l G yX6_power cX6_power 3 (some .int) d [.int (r17 - r8)] K N I95 R L sz φ133 ∧ ∀ (r135 : Int32) (I136 : TI), φ133 r135 I136 → ∃ φ142 : Int32 → TI → Prop, MtI l G yX6_power cX6_power 3 (some .int) d [.int (r17 - r8)] K N I136 R L sz φ142 ∧ ∀ (r144 : Int32) (I145 : TI), φ142 r144 I145 → ¬ r144 = 0 ∧ φ (((I18 b88 (Int32.toNatClampNeg ((10 * x1) - 10))) * r135) + (x2 - x2 / r144 * r144)) I145))) ∧ (¬ ((r17 - r8) + r94) ≤ 6 → φ 0 I95))))) :
    WI p l e s m args below meth c G (d + 1) φ K N R L sz 6 0 [(0, .ref a0), (1, .int x1), (2, .int x2)] I := by
  refine wm_aload_n C rfl dX6_changed_0 ?_
  obtain ⟨hk1, h⟩ := h
  obtain ⟨b2, hr3, h⟩ := h
  refine wm_getR C fqX6_44 hk1 hr3 dX6_changed_1 ?_
  refine wm_bipush C 10 dX6_changed_4 ?_ (by decide)
  refine wm_iload_n C rfl dX6_changed_6 ?_
  refine wm_imul C dX6_changed_7 ?_
  refine wm_bipush C 10 dX6_changed_8 ?_ (by decide)
  refine wm_isub C dX6_changed_10 ?_
  obtain ⟨hk4, h⟩ := h
  obtain ⟨hi5, h⟩ := h
  refine wm_iald C hk4 hi5 dX6_changed_11 ?_
  obtain ⟨φ6, hM7, h⟩ := h
  refine wm_cSI1 C sqX6_119 hM7 ⟨Nat.le_refl _, Nat.le_refl _⟩ (Nat.le_of_ble_eq_true rfl) ⟨Nat.le_of_ble_eq_true rfl, Nat.le_of_ble_eq_true rfl⟩ dX6_changed_12 (fun r8 I9 hφ14 => ?_)
  replace h := h r8 I9 hφ14
  refine wm_istore_n C (by decide) dX6_changed_15 ?_
  refine wm_iload_n C rfl dX6_changed_16 ?_
  obtain ⟨φ15, hM16, h⟩ := h
  refine wm_cSI1 C sqX6_119 hM16 ⟨Nat.le_refl _, Nat.le_refl _⟩ (Nat.le_of_ble_eq_true rfl) ⟨Nat.le_of_ble_eq_true rfl, Nat.le_of_ble_eq_true rfl⟩ dX6_changed_17 (fun r17 I18 hφ23 => ?_)
  replace h := h r17 I18 hφ23
  refine wm_iload_n C rfl dX6_changed_20 ?_
  refine wm_isub C dX6_changed_21 ?_
  refine wm_istore C (by decide) dX6_changed_22 ?_
  refine wm_aload_n C rfl dX6_changed_24 ?_
  obtain ⟨b24, hr25, h⟩ := h
  refine wm_getR C fqX6_41 hk1 hr25 dX6_changed_25 ?_
  refine wm_iload_n C rfl dX6_changed_28 ?_
  obtain ⟨hk26, h⟩ := h
  obtain ⟨hi27, h⟩ := h
  refine wm_iald C hk26 hi27 dX6_changed_29 ?_
  refine wm_if_le C 48 dX6_changed_30 (by decide) (fun q => ?_) (fun q => ?_)
  · replace h := h.1 q
    refine wm_iconst C 0 dX6_changed_48 ?_ (by decide)
    refine wm_istore C (by decide) dX6_changed_49 ?_
    refine wm_iload C rfl dX6_changed_51 ?_
    refine wm_iload C rfl dX6_changed_53 ?_
    obtain ⟨φ28, hM29, h⟩ := h
    refine wm_cSI1 C sqX6_119 hM29 ⟨Nat.le_refl _, Nat.le_refl _⟩ (Nat.le_of_ble_eq_true rfl) ⟨Nat.le_of_ble_eq_true rfl, Nat.le_of_ble_eq_true rfl⟩ dX6_changed_55 (fun r30 I31 hφ36 => ?_)
    replace h := h r30 I31 hφ36
    refine wm_iadd C dX6_changed_58 ?_
    refine wm_bipush C 6 dX6_changed_59 ?_ (by decide)
    refine wm_icmp_le C 66 dX6_changed_61 (by decide) (fun q => ?_) (fun q => ?_)
    · replace h := h.1 q
      refine wm_aload_n C rfl dX6_changed_66 ?_
      obtain ⟨b37, hr38, h⟩ := h
      refine wm_getR C fqX6_35 hk1 hr38 dX6_changed_67 ?_
      refine wm_iload_n C rfl dX6_changed_70 ?_
      obtain ⟨hk39, h⟩ := h
      obtain ⟨hi40, h⟩ := h
      refine wm_iald C hk39 hi40 dX6_changed_71 ?_
      refine wm_iconst C 1 dX6_changed_72 ?_ (by decide)
      refine wm_icmp_ne C 95 dX6_changed_73 (by decide) (fun q => ?_) (fun q => ?_)
      · replace h := h.1 q
        refine wm_iload_n C rfl dX6_changed_95 ?_
        refine wm_iload_n C rfl dX6_changed_96 ?_
        obtain ⟨φ41, hM42, h⟩ := h
        refine wm_cSI1 C sqX6_123 hM42 ⟨Nat.le_refl _, Nat.le_refl _⟩ (Nat.le_of_ble_eq_true rfl) ⟨Nat.le_of_ble_eq_true rfl, Nat.le_of_ble_eq_true rfl⟩ dX6_changed_97 (fun r43 I44 hφ49 => ?_)
        replace h := h r43 I44 hφ49
        obtain ⟨hz50, h⟩ := h
        refine wm_idiv C hz50 dX6_changed_100 ?_
        refine wm_iload C rfl dX6_changed_101 ?_
        obtain ⟨φ51, hM52, h⟩ := h
        refine wm_cSI1 C sqX6_119 hM52 ⟨Nat.le_refl _, Nat.le_refl _⟩ (Nat.le_of_ble_eq_true rfl) ⟨Nat.le_of_ble_eq_true rfl, Nat.le_of_ble_eq_true rfl⟩ dX6_changed_103 (fun r53 I54 hφ59 => ?_)
        replace h := h r53 I54 hφ59
        obtain ⟨φ60, hM61, h⟩ := h
        refine wm_cSI1 C sqX6_123 hM61 ⟨Nat.le_refl _, Nat.le_refl _⟩ (Nat.le_of_ble_eq_true rfl) ⟨Nat.le_of_ble_eq_true rfl, Nat.le_of_ble_eq_true rfl⟩ dX6_changed_106 (fun r62 I63 hφ68 => ?_)
        replace h := h r62 I63 hφ68
        refine wm_imul C dX6_changed_109 ?_
        refine wm_iload C rfl dX6_changed_110 ?_
        refine wm_iadd C dX6_changed_112 ?_
        exact wm_iret C hr rfl (Nat.le_of_ble_eq_true rfl) (Nat.le_of_ble_eq_true rfl) ⟨rfl, rfl, rfl, rfl, rfl, _, rfl, h⟩ dX6_changed_113
      · replace h := h.2 q
        refine wm_iload C rfl dX6_changed_76 ?_
        refine wm_iload C rfl dX6_changed_78 ?_
        obtain ⟨φ69, hM70, h⟩ := h
        refine wm_cSI1 C sqX6_123 hM70 ⟨Nat.le_refl _, Nat.le_refl _⟩ (Nat.le_of_ble_eq_true rfl) ⟨Nat.le_of_ble_eq_true rfl, Nat.le_of_ble_eq_true rfl⟩ dX6_changed_80 (fun r71 I72 hφ77 => ?_)
        replace h := h r71 I72 hφ77
        refine wm_imul C dX6_changed_83 ?_
        refine wm_iload_n C rfl dX6_changed_84 ?_
        refine wm_iload C rfl dX6_changed_85 ?_
        obtain ⟨φ78, hM79, h⟩ := h
        refine wm_cSI1 C sqX6_123 hM79 ⟨Nat.le_refl _, Nat.le_refl _⟩ (Nat.le_of_ble_eq_true rfl) ⟨Nat.le_of_ble_eq_true rfl, Nat.le_of_ble_eq_true rfl⟩ dX6_changed_87 (fun r80 I81 hφ86 => ?_)
        replace h := h r80 I81 hφ86
        obtain ⟨hz87, h⟩ := h
        refine wm_irem C hz87 dX6_changed_90 ?_
        refine wm_iadd C dX6_changed_91 ?_
        refine wm_goto C 113 dX6_changed_92 ?_ (by decide)
        exact wm_iret C hr rfl (Nat.le_of_ble_eq_true rfl) (Nat.le_of_ble_eq_true rfl) ⟨rfl, rfl, rfl, rfl, rfl, _, rfl, h⟩ dX6_changed_113
    · replace h := h.2 q
      refine wm_iconst C 0 dX6_changed_64 ?_ (by decide)
      exact wm_iret C hr rfl (Nat.le_of_ble_eq_true rfl) (Nat.le_of_ble_eq_true rfl) ⟨rfl, rfl, rfl, rfl, rfl, _, rfl, h⟩ dX6_changed_65
  · replace h := h.2 q
    refine wm_aload_n C rfl dX6_changed_33 ?_
    obtain ⟨b88, hr89, h⟩ := h
    refine wm_getR C fqX6_47 hk1 hr89 dX6_changed_34 ?_
    refine wm_bipush C 10 dX6_changed_37 ?_ (by decide)
    refine wm_iload_n C rfl dX6_changed_39 ?_
    refine wm_imul C dX6_changed_40 ?_
    refine wm_bipush C 10 dX6_changed_41 ?_ (by decide)
    refine wm_isub C dX6_changed_43 ?_
    obtain ⟨hk90, h⟩ := h
    obtain ⟨hi91, h⟩ := h
    refine wm_iald C hk90 hi91 dX6_changed_44 ?_
    refine wm_goto C 49 dX6_changed_45 ?_ (by decide)
    refine wm_istore C (by decide) dX6_changed_49 ?_
    refine wm_iload C rfl dX6_changed_51 ?_
    refine wm_iload C rfl dX6_changed_53 ?_
    obtain ⟨φ92, hM93, h⟩ := h
    refine wm_cSI1 C sqX6_119 hM93 ⟨Nat.le_refl _, Nat.le_refl _⟩ (Nat.le_of_ble_eq_true rfl) ⟨Nat.le_of_ble_eq_true rfl, Nat.le_of_ble_eq_true rfl⟩ dX6_changed_55 (fun r94 I95 hφ100 => ?_)
    replace h := h r94 I95 hφ100
    refine wm_iadd C dX6_changed_58 ?_
    refine wm_bipush C 6 dX6_changed_59 ?_ (by decide)
    refine wm_icmp_le C 66 dX6_changed_61 (by decide) (fun q => ?_) (fun q => ?_)
    · replace h := h.1 q
      refine wm_aload_n C rfl dX6_changed_66 ?_
      obtain ⟨b101, hr102, h⟩ := h
      refine wm_getR C fqX6_35 hk1 hr102 dX6_changed_67 ?_
      refine wm_iload_n C rfl dX6_changed_70 ?_
      obtain ⟨hk103, h⟩ := h
      obtain ⟨hi104, h⟩ := h
      refine wm_iald C hk103 hi104 dX6_changed_71 ?_
      refine wm_iconst C 1 dX6_changed_72 ?_ (by decide)
      refine wm_icmp_ne C 95 dX6_changed_73 (by decide) (fun q => ?_) (fun q => ?_)
      · replace h := h.1 q
        refine wm_iload_n C rfl dX6_changed_95 ?_
        refine wm_iload_n C rfl dX6_changed_96 ?_
        obtain ⟨φ105, hM106, h⟩ := h
        refine wm_cSI1 C sqX6_123 hM106 ⟨Nat.le_refl _, Nat.le_refl _⟩ (Nat.le_of_ble_eq_true rfl) ⟨Nat.le_of_ble_eq_true rfl, Nat.le_of_ble_eq_true rfl⟩ dX6_changed_97 (fun r107 I108 hφ113 => ?_)
        replace h := h r107 I108 hφ113
        obtain ⟨hz114, h⟩ := h
        refine wm_idiv C hz114 dX6_changed_100 ?_
        refine wm_iload C rfl dX6_changed_101 ?_
        obtain ⟨φ115, hM116, h⟩ := h
        refine wm_cSI1 C sqX6_119 hM116 ⟨Nat.le_refl _, Nat.le_refl _⟩ (Nat.le_of_ble_eq_true rfl) ⟨Nat.le_of_ble_eq_true rfl, Nat.le_of_ble_eq_true rfl⟩ dX6_changed_103 (fun r117 I118 hφ123 => ?_)
        replace h := h r117 I118 hφ123
        obtain ⟨φ124, hM125, h⟩ := h
        refine wm_cSI1 C sqX6_123 hM125 ⟨Nat.le_refl _, Nat.le_refl _⟩ (Nat.le_of_ble_eq_true rfl) ⟨Nat.le_of_ble_eq_true rfl, Nat.le_of_ble_eq_true rfl⟩ dX6_changed_106 (fun r126 I127 hφ132 => ?_)
        replace h := h r126 I127 hφ132
        refine wm_imul C dX6_changed_109 ?_
        refine wm_iload C rfl dX6_changed_110 ?_
        refine wm_iadd C dX6_changed_112 ?_
        exact wm_iret C hr rfl (Nat.le_of_ble_eq_true rfl) (Nat.le_of_ble_eq_true rfl) ⟨rfl, rfl, rfl, rfl, rfl, _, rfl, h⟩ dX6_changed_113
      · replace h := h.2 q
        refine wm_iload C rfl dX6_changed_76 ?_
        refine wm_iload C rfl dX6_changed_78 ?_
        obtain ⟨φ133, hM134, h⟩ := h
        refine wm_cSI1 C sqX6_123 hM134 ⟨Nat.le_refl _, Nat.le_refl _⟩ (Nat.le_of_ble_eq_true rfl) ⟨Nat.le_of_ble_eq_true rfl, Nat.le_of_ble_eq_true rfl⟩ dX6_changed_80 (fun r135 I136 hφ141 => ?_)
        replace h := h r135 I136 hφ141
        refine wm_imul C dX6_changed_83 ?_
        refine wm_iload_n C rfl dX6_changed_84 ?_
        refine wm_iload C rfl dX6_changed_85 ?_
        obtain ⟨φ142, hM143, h⟩ := h
        refine wm_cSI1 C sqX6_123 hM143 ⟨Nat.le_refl _, Nat.le_refl _⟩ (Nat.le_of_ble_eq_true rfl) ⟨Nat.le_of_ble_eq_true rfl, Nat.le_of_ble_eq_true rfl⟩ dX6_changed_87 (fun r144 I145 hφ150 => ?_)
        replace h := h r144 I145 hφ150
        obtain ⟨hz151, h⟩ := h
        refine wm_irem C hz151 dX6_changed_90 ?_
        refine wm_iadd C dX6_changed_91 ?_
        refine wm_goto C 113 dX6_changed_92 ?_ (by decide)
        exact wm_iret C hr rfl (Nat.le_of_ble_eq_true rfl) (Nat.le_of_ble_eq_true rfl) ⟨rfl, rfl, rfl, rfl, rfl, _, rfl, h⟩ dX6_changed_113
    · replace h := h.2 q
      refine wm_iconst C 0 dX6_changed_64 ?_ (by decide)
      exact wm_iret C hr rfl (Nat.le_of_ble_eq_true rfl) (Nat.le_of_ble_eq_true rfl) ⟨rfl, rfl, rfl, rfl, rfl, _, rfl, h⟩ dX6_changed_65
set_option maxRecDepth 100000 in
set_option maxHeartbeats 4000000 in
theorem sX6_changed {l : Launch} {G : Gx} {d : Nat} {K N : TK} {I : TI} {R : TR} {L : TL} {sz : Nat} {φ : Int32 → TI → Prop} {a0 : Nat} {x1 : Int32} {x2 : Int32}
    (h : K a0 = 17 ∧ ∃ b2, R a0 15 = some b2 ∧ K b2 = 20 ∧ vp_in ((10 * x1) - 10) (N b2) ∧ ∃ φ6 : Int32 → TI → Prop, MtI l G yX6_letters cX6_letters 3 (some .int) d [.int (I b2 (Int32.toNatClampNeg ((10 * x1) - 10)))] K N I R L sz φ6 ∧ ∀ (r8 : Int32) (I9 : TI), φ6 r8 I9 → ∃ φ15 : Int32 → TI → Prop, MtI l G yX6_letters cX6_letters 3 (some .int) d [.int x2] K N I9 R L sz φ15 ∧ ∀ (r17 : Int32) (I18 : TI), φ15 r17 I18 → ∃ b24, R a0 14 = some b24 ∧ K b24 = 20 ∧ vp_in x1 (N b24) ∧ (((I18 b24 (Int32.toNatClampNeg x1)) ≤ 0 → ∃ φ28 : Int32 → TI → Prop, MtI l G yX6_letters cX6_letters 3 (some .int) d [.int 0] K N I18 R L sz φ28 ∧ ∀ (r30 : Int32) (I31 : TI), φ28 r30 I31 → ((((r17 - r8) + r30) ≤ 6 → ∃ b37, R a0 12 = some b37 ∧ K b37 = 20 ∧ vp_in x1 (N b37) ∧ ((¬ (I31 b37 (Int32.toNatClampNeg x1)) = 1 → ∃ φ41 : Int32 → TI → Prop, MtI l G yX6_power cX6_power 3 (some .int) d [.int r8] K N I31 R L sz φ41 ∧ ∀ (r43 : Int32) (I44 : TI), φ41 r43 I44 → ¬ r43 = 0 ∧ ∃ φ51 : Int32 → TI → Prop, MtI l G yX6_letters cX6_letters 3 (some .int) d [.int 0] K N I44 R L sz φ51 ∧ ∀ (r53 : Int32) (I54 : TI), φ51 r53 I54 → ∃ φ60 : Int32 → TI → Prop, MtI l G yX6_power cX6_power 3 (some .int) d [.int r53] K N I54 R L sz φ60 ∧ ∀ (r62 : Int32) (I63 : TI), φ60 r62 I63 → φ (((x2 / r43) * r62) + 0) I63) ∧ ((I31 b37 (Int32.toNatClampNeg x1)) = 1 → ∃ φ69 : Int32 → TI → Prop, MtI l G yX6_power cX6_power 3 (some .int) d [.int (r17 - r8)] K N I31 R L sz φ69 ∧ ∀ (r71 : Int32) (I72 : TI), φ69 r71 I72 → ∃ φ78 : Int32 → TI → Prop, MtI l G yX6_power cX6_power 3 (some .int) d [.int (r17 - r8)] K N I72 R L sz φ78 ∧ ∀ (r80 : Int32) (I81 : TI), φ78 r80 I81 → ¬ r80 = 0 ∧ φ ((0 * r71) + (x2 - x2 / r80 * r80)) I81))) ∧ (¬ ((r17 - r8) + r30) ≤ 6 → φ 0 I31))) ∧ (¬ (I18 b24 (Int32.toNatClampNeg x1)) ≤ 0 → ∃ b88, R a0 16 = some b88 ∧ K b88 = 20 ∧ vp_in ((10 * x1) - 10) (N b88) ∧ ∃ φ92 : Int32 → TI → Prop, MtI l G yX6_letters cX6_letters 3 (some .int) d [.int (I18 b88 (Int32.toNatClampNeg ((10 * x1) - 10)))] K N I18 R L sz φ92 ∧ ∀ (r94 : Int32) (I95 : TI), φ92 r94 I95 → ((((r17 - r8) + r94) ≤ 6 → ∃ b101, R a0 12 = some b101 ∧ K b101 = 20 ∧ vp_in x1 (N b101) ∧ ((¬ (I95 b101 (Int32.toNatClampNeg x1)) = 1 → ∃ φ105 : Int32 → TI → Prop, MtI l G yX6_power cX6_power 3 (some .int) d [.int r8] K N I95 R L sz φ105 ∧ ∀ (r107 : Int32) (I108 : TI), φ105 r107 I108 → ¬ r107 = 0 ∧ ∃ φ115 : Int32 → TI → Prop, MtI l G yX6_letters cX6_letters 3 (some .int) d [.int (I18 b88 (Int32.toNatClampNeg ((10 * x1) - 10)))] K N I108 R L sz φ115 ∧ ∀ (r117 : Int32) (I118 : TI), φ115 r117 I118 → ∃ φ124 : Int32 → TI → Prop, MtI l G yX6_power cX6_power 3 (some .int) d [.int r117] K N I118 R L sz φ124 ∧ ∀ (r126 : Int32) (I127 : TI), φ124 r126 I127 → φ (((x2 / r107) * r126) + (I18 b88 (Int32.toNatClampNeg ((10 * x1) - 10)))) I127) ∧ ((I95 b101 (Int32.toNatClampNeg x1)) = 1 → ∃ φ133 : Int32 → TI → Prop, MtI l G yX6_power cX6_power 3 (some .int) d [.int (r17 - r8)] K N I95 R L sz φ133 ∧ ∀ (r135 : Int32) (I136 : TI), φ133 r135 I136 → ∃ φ142 : Int32 → TI → Prop, MtI l G yX6_power cX6_power 3 (some .int) d [.int (r17 - r8)] K N I136 R L sz φ142 ∧ ∀ (r144 : Int32) (I145 : TI), φ142 r144 I145 → ¬ r144 = 0 ∧ φ (((I18 b88 (Int32.toNatClampNeg ((10 * x1) - 10))) * r135) + (x2 - x2 / r144 * r144)) I145))) ∧ (¬ ((r17 - r8) + r94) ≤ 6 → φ 0 I95))))) :
    MtI l G yX6_changed cX6_changed 6 (some .int) (d + 1) [.ref a0, .int x1, .int x2] K N I R L sz φ :=
  MetM.of (own := RX6) (by decide) rfl (catR (catI (catI cat0))) (Nat.le_of_ble_eq_true rfl) (fun p e s m args below meth c C hr hnm => vX6_changed_0 C hr h)
set_option maxRecDepth 100000 in
set_option maxHeartbeats 4000000 in
theorem vX6_step_0 {p : Program} {l : Launch} {e : Env} {s : State} {m : MethodId} {args : Array Value} {below : List Frame} {meth : Method} {c : Code} {G : Gx} {d : Nat} {K N : TK} {I : TI} {R : TR} {L : TL} {sz : Nat} {φ : Int32 → TI → Prop} (C : Cx p s m args meth c (AM K sz) G RX6 cX6_step 9) (hr : meth.sig.returnType = (some .int)) {a0 : Nat} {x1 : Int32} {x2 : Int32} {x3 : Int32} {x4 : Int32}
    (h : (WI p l e s m args below meth c G (d + 1) φ K N R L sz 9 3 [(0, .ref a0), (1, .int x1), (2, .int x2), (3, .int x3), (4, .int x4), (5, .int 0)] I)) :
    WI p l e s m args below meth c G (d + 1) φ K N R L sz 9 0 [(0, .ref a0), (1, .int x1), (2, .int x2), (3, .int x3), (4, .int x4)] I := by
  refine wm_iconst C 0 dX6_step_0 ?_ (by decide)
  refine wm_istore C (by decide) dX6_step_1 ?_
  exact h
set_option maxRecDepth 100000 in
set_option maxHeartbeats 4000000 in
theorem vX6_step_3 {p : Program} {l : Launch} {e : Env} {s : State} {m : MethodId} {args : Array Value} {below : List Frame} {meth : Method} {c : Code} {G : Gx} {d : Nat} {K N : TK} {I : TI} {R : TR} {L : TL} {sz : Nat} {φ : Int32 → TI → Prop} (C : Cx p s m args meth c (AM K sz) G RX6 cX6_step 9) (hr : meth.sig.returnType = (some .int)) {a0 : Nat} {x1 : Int32} {x2 : Int32} {x3 : Int32} {x4 : Int32} {x5 : Int32}
    (h : K a0 = 17 ∧ ∃ b2, R a0 8 = some b2 ∧ K b2 = 20 ∧ vp_in x1 (N b2) ∧ (((I b2 (Int32.toNatClampNeg x1)) ≤ x5 → ∃ φ6 : Int32 → TI → Prop, MtI l G yX6_again cX6_again 3 (some .boolean) d [.ref a0, .int x4, .int x2] K N I R L sz φ6 ∧ ∀ (r8 : Int32) (I9 : TI), φ6 r8 I9 → ((r8 = 0 → φ 0 I9) ∧ (¬ r8 = 0 → φ (x2 + 1) I9))) ∧ (¬ (I b2 (Int32.toNatClampNeg x1)) ≤ x5 → ∃ b15, R a0 17 = some b15 ∧ K b15 = 20 ∧ vp_in x2 (N b15) ∧ (((I b15 (Int32.toNatClampNeg x2)) ≤ 0 → ∃ φ19 : Int32 → TI → Prop, MtI l G yX6_again cX6_again 3 (some .boolean) d [.ref a0, .int x4, .int x2] K N I R L sz φ19 ∧ ∀ (r21 : Int32) (I22 : TI), φ19 r21 I22 → ((r21 = 0 → φ 0 I22) ∧ (¬ r21 = 0 → φ (x2 + 1) I22))) ∧ (¬ (I b15 (Int32.toNatClampNeg x2)) ≤ 0 → ∃ b28, R a0 9 = some b28 ∧ K b28 = 20 ∧ vp_in (((8 * x1) - 8) + x5) (N b28) ∧ ∃ b32, R a0 12 = some b32 ∧ K b32 = 20 ∧ vp_in (I b28 (Int32.toNatClampNeg (((8 * x1) - 8) + x5))) (N b32) ∧ ((¬ (I b32 (Int32.toNatClampNeg (I b28 (Int32.toNatClampNeg (((8 * x1) - 8) + x5))))) = 0 → ∃ φ36 : Int32 → TI → Prop, MtI l G yX6_hasPart cX6_hasPart 5 (some .boolean) d [.ref a0, .int (I b28 (Int32.toNatClampNeg (((8 * x1) - 8) + x5))), .int (I b15 (Int32.toNatClampNeg x2))] K N I R L sz φ36 ∧ ∀ (r38 : Int32) (I39 : TI), φ36 r38 I39 → ((¬ r38 = 0 → ∀ I45 : TI, I45 = u2 I39 a0 30 ((I39 a0 30) + 1) → ∃ φ46 : Int32 → TI → Prop, MtI l G yX6_changed cX6_changed 6 (some .int) d [.ref a0, .int (I b28 (Int32.toNatClampNeg (((8 * x1) - 8) + x5))), .int (I45 b15 (Int32.toNatClampNeg x2))] K N I45 R L sz φ46 ∧ ∀ (r48 : Int32) (I49 : TI), φ46 r48 I49 → ((¬ r48 = 0 → ((r48 ≤ 0 → φ 0 I49) ∧ (¬ r48 ≤ 0 → ∃ b55, R a0 18 = some b55 ∧ K b55 = 20 ∧ vp_in x2 (N b55) ∧ ∃ b59, R a0 19 = some b59 ∧ K b59 = 20 ∧ vp_in x2 (N b59) ∧ ∃ b63, R a0 21 = some b63 ∧ K b63 = 20 ∧ vp_in x2 (N b63) ∧ ∃ b67, R a0 22 = some b67 ∧ K b67 = 20 ∧ vp_in x2 (N b67) ∧ ∃ φ71 : Int32 → TI → Prop, MtI l G yX6_put cX6_put 9 (some .boolean) d [.ref a0, .int x4, .int r48, .int (I49 b55 (Int32.toNatClampNeg x2)), .int (I49 b59 (Int32.toNatClampNeg x2)), .int (I b28 (Int32.toNatClampNeg (((8 * x1) - 8) + x5))), .int (I49 b63 (Int32.toNatClampNeg x2)), .int (I49 b67 (Int32.toNatClampNeg x2))] K N I49 R L sz φ71 ∧ ∀ (r73 : Int32) (I74 : TI), φ71 r73 I74 → ((r73 = 0 → φ 0 I74) ∧ (¬ r73 = 0 → φ (x2 + 1) I74))))) ∧ (r48 = 0 → ∀ I80 : TI, I80 = u2 I49 a0 28 (-5) → ((r48 ≤ 0 → φ 0 I80) ∧ (¬ r48 ≤ 0 → ∃ b81, R a0 18 = some b81 ∧ K b81 = 20 ∧ vp_in x2 (N b81) ∧ ∃ b85, R a0 19 = some b85 ∧ K b85 = 20 ∧ vp_in x2 (N b85) ∧ ∃ b89, R a0 21 = some b89 ∧ K b89 = 20 ∧ vp_in x2 (N b89) ∧ ∃ b93, R a0 22 = some b93 ∧ K b93 = 20 ∧ vp_in x2 (N b93) ∧ ∃ φ97 : Int32 → TI → Prop, MtI l G yX6_put cX6_put 9 (some .boolean) d [.ref a0, .int x4, .int r48, .int (I80 b81 (Int32.toNatClampNeg x2)), .int (I80 b85 (Int32.toNatClampNeg x2)), .int (I b28 (Int32.toNatClampNeg (((8 * x1) - 8) + x5))), .int (I80 b89 (Int32.toNatClampNeg x2)), .int (I80 b93 (Int32.toNatClampNeg x2))] K N I80 R L sz φ97 ∧ ∀ (r99 : Int32) (I100 : TI), φ97 r99 I100 → ((r99 = 0 → φ 0 I100) ∧ (¬ r99 = 0 → φ (x2 + 1) I100))))))) ∧ (r38 = 0 → (WI p l e s m args below meth c G (d + 1) φ K N R L sz 9 3 [(0, .ref a0), (1, .int x1), (2, .int x2), (3, .int x3), (4, .int x4), (5, .int (x5 + 1))] I39)))) ∧ ((I b32 (Int32.toNatClampNeg (I b28 (Int32.toNatClampNeg (((8 * x1) - 8) + x5))))) = 0 → ∃ φ106 : Int32 → TI → Prop, MtI l G yX6_behind cX6_behind 6 (some .int) d [.ref a0, .int (I b28 (Int32.toNatClampNeg (((8 * x1) - 8) + x5))), .int x2, .int x3] K N I R L sz φ106 ∧ ∀ (r108 : Int32) (I109 : TI), φ106 r108 I109 → ((¬ r108 = 0 → ∀ I115 : TI, I115 = u2 I109 a0 30 ((I109 a0 30) + 1) → (WI p l e s m args below meth c G (d + 1) φ K N R L sz 9 81 [(0, .ref a0), (2, .int x2), (4, .int x4), (6, .int (I b28 (Int32.toNatClampNeg (((8 * x1) - 8) + x5)))), (7, .int r108), (8, .int 0)] I115)) ∧ (r108 = 0 → (WI p l e s m args below meth c G (d + 1) φ K N R L sz 9 3 [(0, .ref a0), (1, .int x1), (2, .int x2), (3, .int x3), (4, .int x4), (5, .int (x5 + 1))] I109)))))))))) :
    WI p l e s m args below meth c G (d + 1) φ K N R L sz 9 3 [(0, .ref a0), (1, .int x1), (2, .int x2), (3, .int x3), (4, .int x4), (5, .int x5)] I := by
  refine wm_iload C rfl dX6_step_3 ?_
  refine wm_aload_n C rfl dX6_step_5 ?_
  obtain ⟨hk1, h⟩ := h
  obtain ⟨b2, hr3, h⟩ := h
  refine wm_getR C fqX6_22 hk1 hr3 dX6_step_6 ?_
  refine wm_iload_n C rfl dX6_step_9 ?_
  obtain ⟨hk4, h⟩ := h
  obtain ⟨hi5, h⟩ := h
  refine wm_iald C hk4 hi5 dX6_step_10 ?_
  refine wm_icmp_ge C 264 dX6_step_11 (by decide) (fun q => ?_) (fun q => ?_)
  · replace h := h.1 q
    refine wm_aload_n C rfl dX6_step_264 ?_
    refine wm_iload C rfl dX6_step_265 ?_
    refine wm_iload_n C rfl dX6_step_267 ?_
    obtain ⟨φ6, hM7, h⟩ := h
    refine wm_cVI2 C vqX6_140 hM7 hk1 ⟨Nat.le_refl _, Nat.le_refl _⟩ (Nat.le_of_ble_eq_true rfl) ⟨Nat.le_of_ble_eq_true rfl, Nat.le_of_ble_eq_true rfl⟩ dX6_step_268 (fun r8 I9 hφ14 => ?_)
    replace h := h r8 I9 hφ14
    refine wm_if_eq C 280 dX6_step_271 (by decide) (fun q => ?_) (fun q => ?_)
    · replace h := h.1 q
      refine wm_iconst C 0 dX6_step_280 ?_ (by decide)
      exact wm_iret C hr rfl (Nat.le_of_ble_eq_true rfl) (Nat.le_of_ble_eq_true rfl) ⟨rfl, rfl, rfl, rfl, rfl, _, rfl, h⟩ dX6_step_281
    · replace h := h.2 q
      refine wm_iload_n C rfl dX6_step_274 ?_
      refine wm_iconst C 1 dX6_step_275 ?_ (by decide)
      refine wm_iadd C dX6_step_276 ?_
      refine wm_goto C 281 dX6_step_277 ?_ (by decide)
      exact wm_iret C hr rfl (Nat.le_of_ble_eq_true rfl) (Nat.le_of_ble_eq_true rfl) ⟨rfl, rfl, rfl, rfl, rfl, _, rfl, h⟩ dX6_step_281
  · replace h := h.2 q
    refine wm_aload_n C rfl dX6_step_14 ?_
    obtain ⟨b15, hr16, h⟩ := h
    refine wm_getR C fqX6_50 hk1 hr16 dX6_step_15 ?_
    refine wm_iload_n C rfl dX6_step_18 ?_
    obtain ⟨hk17, h⟩ := h
    obtain ⟨hi18, h⟩ := h
    refine wm_iald C hk17 hi18 dX6_step_19 ?_
    refine wm_if_le C 264 dX6_step_20 (by decide) (fun q => ?_) (fun q => ?_)
    · replace h := h.1 q
      refine wm_aload_n C rfl dX6_step_264 ?_
      refine wm_iload C rfl dX6_step_265 ?_
      refine wm_iload_n C rfl dX6_step_267 ?_
      obtain ⟨φ19, hM20, h⟩ := h
      refine wm_cVI2 C vqX6_140 hM20 hk1 ⟨Nat.le_refl _, Nat.le_refl _⟩ (Nat.le_of_ble_eq_true rfl) ⟨Nat.le_of_ble_eq_true rfl, Nat.le_of_ble_eq_true rfl⟩ dX6_step_268 (fun r21 I22 hφ27 => ?_)
      replace h := h r21 I22 hφ27
      refine wm_if_eq C 280 dX6_step_271 (by decide) (fun q => ?_) (fun q => ?_)
      · replace h := h.1 q
        refine wm_iconst C 0 dX6_step_280 ?_ (by decide)
        exact wm_iret C hr rfl (Nat.le_of_ble_eq_true rfl) (Nat.le_of_ble_eq_true rfl) ⟨rfl, rfl, rfl, rfl, rfl, _, rfl, h⟩ dX6_step_281
      · replace h := h.2 q
        refine wm_iload_n C rfl dX6_step_274 ?_
        refine wm_iconst C 1 dX6_step_275 ?_ (by decide)
        refine wm_iadd C dX6_step_276 ?_
        refine wm_goto C 281 dX6_step_277 ?_ (by decide)
        exact wm_iret C hr rfl (Nat.le_of_ble_eq_true rfl) (Nat.le_of_ble_eq_true rfl) ⟨rfl, rfl, rfl, rfl, rfl, _, rfl, h⟩ dX6_step_281
    · replace h := h.2 q
      refine wm_aload_n C rfl dX6_step_23 ?_
      obtain ⟨b28, hr29, h⟩ := h
      refine wm_getR C fqX6_25 hk1 hr29 dX6_step_24 ?_
      refine wm_bipush C 8 dX6_step_27 ?_ (by decide)
      refine wm_iload_n C rfl dX6_step_29 ?_
      refine wm_imul C dX6_step_30 ?_
      refine wm_bipush C 8 dX6_step_31 ?_ (by decide)
      refine wm_isub C dX6_step_33 ?_
      refine wm_iload C rfl dX6_step_34 ?_
      refine wm_iadd C dX6_step_36 ?_
      obtain ⟨hk30, h⟩ := h
      obtain ⟨hi31, h⟩ := h
      refine wm_iald C hk30 hi31 dX6_step_37 ?_
      refine wm_istore C (by decide) dX6_step_38 ?_
      refine wm_aload_n C rfl dX6_step_40 ?_
      obtain ⟨b32, hr33, h⟩ := h
      refine wm_getR C fqX6_35 hk1 hr33 dX6_step_41 ?_
      refine wm_iload C rfl dX6_step_44 ?_
      obtain ⟨hk34, h⟩ := h
      obtain ⟨hi35, h⟩ := h
      refine wm_iald C hk34 hi35 dX6_step_46 ?_
      refine wm_if_ne C 155 dX6_step_47 (by decide) (fun q => ?_) (fun q => ?_)
      · replace h := h.1 q
        refine wm_aload_n C rfl dX6_step_155 ?_
        refine wm_iload C rfl dX6_step_156 ?_
        refine wm_aload_n C rfl dX6_step_158 ?_
        refine wm_getR C fqX6_50 hk1 hr16 dX6_step_159 ?_
        refine wm_iload_n C rfl dX6_step_162 ?_
        refine wm_iald C hk17 hi18 dX6_step_163 ?_
        obtain ⟨φ36, hM37, h⟩ := h
        refine wm_cVI2 C vqX6_133 hM37 hk1 ⟨Nat.le_refl _, Nat.le_refl _⟩ (Nat.le_of_ble_eq_true rfl) ⟨Nat.le_of_ble_eq_true rfl, Nat.le_of_ble_eq_true rfl⟩ dX6_step_164 (fun r38 I39 hφ44 => ?_)
        replace h := h r38 I39 hφ44
        refine wm_if_ne C 173 dX6_step_167 (by decide) (fun q => ?_) (fun q => ?_)
        · replace h := h.1 q
          refine wm_aload_n C rfl dX6_step_173 ?_
          refine wm_dup C rfl dX6_step_174 ?_
          refine wm_getI C fqX6_130 hk1 dX6_step_175 ?_
          refine wm_iconst C 1 dX6_step_178 ?_ (by decide)
          refine wm_iadd C dX6_step_179 ?_
          refine wm_putI C fqX6_130 hk1 dX6_step_180 ?_
          refine nmI (fun I45 hI45 => ?_)
          replace h := h I45 hI45
          refine wm_aload_n C rfl dX6_step_183 ?_
          refine wm_iload C rfl dX6_step_184 ?_
          refine wm_aload_n C rfl dX6_step_186 ?_
          refine wm_getR C fqX6_50 hk1 hr16 dX6_step_187 ?_
          refine wm_iload_n C rfl dX6_step_190 ?_
          refine wm_iald C hk17 hi18 dX6_step_191 ?_
          obtain ⟨φ46, hM47, h⟩ := h
          refine wm_cVI2 C vqX6_137 hM47 hk1 ⟨Nat.le_refl _, Nat.le_refl _⟩ (Nat.le_of_ble_eq_true rfl) ⟨Nat.le_of_ble_eq_true rfl, Nat.le_of_ble_eq_true rfl⟩ dX6_step_192 (fun r48 I49 hφ54 => ?_)
          replace h := h r48 I49 hφ54
          refine wm_istore C (by decide) dX6_step_195 ?_
          refine wm_iload C rfl dX6_step_197 ?_
          refine wm_if_ne C 208 dX6_step_199 (by decide) (fun q => ?_) (fun q => ?_)
          · replace h := h.1 q
            refine wm_iload C rfl dX6_step_208 ?_
            refine wm_if_le C 256 dX6_step_210 (by decide) (fun q => ?_) (fun q => ?_)
            · replace h := h.1 q
              refine wm_iconst C 0 dX6_step_256 ?_ (by decide)
              exact wm_iret C hr rfl (Nat.le_of_ble_eq_true rfl) (Nat.le_of_ble_eq_true rfl) ⟨rfl, rfl, rfl, rfl, rfl, _, rfl, h⟩ dX6_step_257
            · replace h := h.2 q
              refine wm_aload_n C rfl dX6_step_213 ?_
              refine wm_iload C rfl dX6_step_214 ?_
              refine wm_iload C rfl dX6_step_216 ?_
              refine wm_aload_n C rfl dX6_step_218 ?_
              obtain ⟨b55, hr56, h⟩ := h
              refine wm_getR C fqX6_53 hk1 hr56 dX6_step_219 ?_
              refine wm_iload_n C rfl dX6_step_222 ?_
              obtain ⟨hk57, h⟩ := h
              obtain ⟨hi58, h⟩ := h
              refine wm_iald C hk57 hi58 dX6_step_223 ?_
              refine wm_aload_n C rfl dX6_step_224 ?_
              obtain ⟨b59, hr60, h⟩ := h
              refine wm_getR C fqX6_56 hk1 hr60 dX6_step_225 ?_
              refine wm_iload_n C rfl dX6_step_228 ?_
              obtain ⟨hk61, h⟩ := h
              obtain ⟨hi62, h⟩ := h
              refine wm_iald C hk61 hi62 dX6_step_229 ?_
              refine wm_iload C rfl dX6_step_230 ?_
              refine wm_aload_n C rfl dX6_step_232 ?_
              obtain ⟨b63, hr64, h⟩ := h
              refine wm_getR C fqX6_62 hk1 hr64 dX6_step_233 ?_
              refine wm_iload_n C rfl dX6_step_236 ?_
              obtain ⟨hk65, h⟩ := h
              obtain ⟨hi66, h⟩ := h
              refine wm_iald C hk65 hi66 dX6_step_237 ?_
              refine wm_aload_n C rfl dX6_step_238 ?_
              obtain ⟨b67, hr68, h⟩ := h
              refine wm_getR C fqX6_65 hk1 hr68 dX6_step_239 ?_
              refine wm_iload_n C rfl dX6_step_242 ?_
              obtain ⟨hk69, h⟩ := h
              obtain ⟨hi70, h⟩ := h
              refine wm_iald C hk69 hi70 dX6_step_243 ?_
              obtain ⟨φ71, hM72, h⟩ := h
              refine wm_cVI7 C vqX6_115 hM72 hk1 ⟨Nat.le_refl _, Nat.le_refl _⟩ (Nat.le_of_ble_eq_true rfl) ⟨Nat.le_of_ble_eq_true rfl, Nat.le_of_ble_eq_true rfl⟩ dX6_step_244 (fun r73 I74 hφ79 => ?_)
              replace h := h r73 I74 hφ79
              refine wm_if_eq C 256 dX6_step_247 (by decide) (fun q => ?_) (fun q => ?_)
              · replace h := h.1 q
                refine wm_iconst C 0 dX6_step_256 ?_ (by decide)
                exact wm_iret C hr rfl (Nat.le_of_ble_eq_true rfl) (Nat.le_of_ble_eq_true rfl) ⟨rfl, rfl, rfl, rfl, rfl, _, rfl, h⟩ dX6_step_257
              · replace h := h.2 q
                refine wm_iload_n C rfl dX6_step_250 ?_
                refine wm_iconst C 1 dX6_step_251 ?_ (by decide)
                refine wm_iadd C dX6_step_252 ?_
                refine wm_goto C 257 dX6_step_253 ?_ (by decide)
                exact wm_iret C hr rfl (Nat.le_of_ble_eq_true rfl) (Nat.le_of_ble_eq_true rfl) ⟨rfl, rfl, rfl, rfl, rfl, _, rfl, h⟩ dX6_step_257
          · replace h := h.2 q
            refine wm_aload_n C rfl dX6_step_202 ?_
            refine wm_bipush C (-5) dX6_step_203 ?_ (by decide)
            refine wm_putI C fqX6_112 hk1 dX6_step_205 ?_
            refine nmI (fun I80 hI80 => ?_)
            replace h := h I80 hI80
            refine wm_iload C rfl dX6_step_208 ?_
            refine wm_if_le C 256 dX6_step_210 (by decide) (fun q => ?_) (fun q => ?_)
            · replace h := h.1 q
              refine wm_iconst C 0 dX6_step_256 ?_ (by decide)
              exact wm_iret C hr rfl (Nat.le_of_ble_eq_true rfl) (Nat.le_of_ble_eq_true rfl) ⟨rfl, rfl, rfl, rfl, rfl, _, rfl, h⟩ dX6_step_257
            · replace h := h.2 q
              refine wm_aload_n C rfl dX6_step_213 ?_
              refine wm_iload C rfl dX6_step_214 ?_
              refine wm_iload C rfl dX6_step_216 ?_
              refine wm_aload_n C rfl dX6_step_218 ?_
              obtain ⟨b81, hr82, h⟩ := h
              refine wm_getR C fqX6_53 hk1 hr82 dX6_step_219 ?_
              refine wm_iload_n C rfl dX6_step_222 ?_
              obtain ⟨hk83, h⟩ := h
              obtain ⟨hi84, h⟩ := h
              refine wm_iald C hk83 hi84 dX6_step_223 ?_
              refine wm_aload_n C rfl dX6_step_224 ?_
              obtain ⟨b85, hr86, h⟩ := h
              refine wm_getR C fqX6_56 hk1 hr86 dX6_step_225 ?_
              refine wm_iload_n C rfl dX6_step_228 ?_
              obtain ⟨hk87, h⟩ := h
              obtain ⟨hi88, h⟩ := h
              refine wm_iald C hk87 hi88 dX6_step_229 ?_
              refine wm_iload C rfl dX6_step_230 ?_
              refine wm_aload_n C rfl dX6_step_232 ?_
              obtain ⟨b89, hr90, h⟩ := h
              refine wm_getR C fqX6_62 hk1 hr90 dX6_step_233 ?_
              refine wm_iload_n C rfl dX6_step_236 ?_
              obtain ⟨hk91, h⟩ := h
              obtain ⟨hi92, h⟩ := h
              refine wm_iald C hk91 hi92 dX6_step_237 ?_
              refine wm_aload_n C rfl dX6_step_238 ?_
              obtain ⟨b93, hr94, h⟩ := h
              refine wm_getR C fqX6_65 hk1 hr94 dX6_step_239 ?_
              refine wm_iload_n C rfl dX6_step_242 ?_
              obtain ⟨hk95, h⟩ := h
              obtain ⟨hi96, h⟩ := h
              refine wm_iald C hk95 hi96 dX6_step_243 ?_
              obtain ⟨φ97, hM98, h⟩ := h
              refine wm_cVI7 C vqX6_115 hM98 hk1 ⟨Nat.le_refl _, Nat.le_refl _⟩ (Nat.le_of_ble_eq_true rfl) ⟨Nat.le_of_ble_eq_true rfl, Nat.le_of_ble_eq_true rfl⟩ dX6_step_244 (fun r99 I100 hφ105 => ?_)
              replace h := h r99 I100 hφ105
              refine wm_if_eq C 256 dX6_step_247 (by decide) (fun q => ?_) (fun q => ?_)
              · replace h := h.1 q
                refine wm_iconst C 0 dX6_step_256 ?_ (by decide)
                exact wm_iret C hr rfl (Nat.le_of_ble_eq_true rfl) (Nat.le_of_ble_eq_true rfl) ⟨rfl, rfl, rfl, rfl, rfl, _, rfl, h⟩ dX6_step_257
              · replace h := h.2 q
                refine wm_iload_n C rfl dX6_step_250 ?_
                refine wm_iconst C 1 dX6_step_251 ?_ (by decide)
                refine wm_iadd C dX6_step_252 ?_
                refine wm_goto C 257 dX6_step_253 ?_ (by decide)
                exact wm_iret C hr rfl (Nat.le_of_ble_eq_true rfl) (Nat.le_of_ble_eq_true rfl) ⟨rfl, rfl, rfl, rfl, rfl, _, rfl, h⟩ dX6_step_257
        · replace h := h.2 q
          refine wm_goto C 258 dX6_step_170 ?_ (by decide)
          refine wm_iinc C (x5 + 1) rfl dX6_step_258 rfl (by decide) ?_
          refine wm_goto C 3 dX6_step_261 ?_ (by decide)
          exact wm_pick [0, 1, 2, 3, 4, 5] rfl h
      · replace h := h.2 q
        refine wm_aload_n C rfl dX6_step_50 ?_
        refine wm_iload C rfl dX6_step_51 ?_
        refine wm_iload_n C rfl dX6_step_53 ?_
        refine wm_iload_n C rfl dX6_step_54 ?_
        obtain ⟨φ106, hM107, h⟩ := h
        refine wm_cVI3 C vqX6_126 hM107 hk1 ⟨Nat.le_refl _, Nat.le_refl _⟩ (Nat.le_of_ble_eq_true rfl) ⟨Nat.le_of_ble_eq_true rfl, Nat.le_of_ble_eq_true rfl⟩ dX6_step_55 (fun r108 I109 hφ114 => ?_)
        replace h := h r108 I109 hφ114
        refine wm_istore C (by decide) dX6_step_58 ?_
        refine wm_iload C rfl dX6_step_60 ?_
        refine wm_if_ne C 68 dX6_step_62 (by decide) (fun q => ?_) (fun q => ?_)
        · replace h := h.1 q
          refine wm_aload_n C rfl dX6_step_68 ?_
          refine wm_dup C rfl dX6_step_69 ?_
          refine wm_getI C fqX6_130 hk1 dX6_step_70 ?_
          refine wm_iconst C 1 dX6_step_73 ?_ (by decide)
          refine wm_iadd C dX6_step_74 ?_
          refine wm_putI C fqX6_130 hk1 dX6_step_75 ?_
          refine nmI (fun I115 hI115 => ?_)
          replace h := h I115 hI115
          refine wm_iconst C 0 dX6_step_78 ?_ (by decide)
          refine wm_istore C (by decide) dX6_step_79 ?_
          exact wm_pick [0, 2, 4, 6, 7, 8] rfl h
        · replace h := h.2 q
          refine wm_goto C 258 dX6_step_65 ?_ (by decide)
          refine wm_iinc C (x5 + 1) rfl dX6_step_258 rfl (by decide) ?_
          refine wm_goto C 3 dX6_step_261 ?_ (by decide)
          exact wm_pick [0, 1, 2, 3, 4, 5] rfl h
set_option maxRecDepth 100000 in
set_option maxHeartbeats 4000000 in
theorem vX6_step_81 {p : Program} {l : Launch} {e : Env} {s : State} {m : MethodId} {args : Array Value} {below : List Frame} {meth : Method} {c : Code} {G : Gx} {d : Nat} {K N : TK} {I : TI} {R : TR} {L : TL} {sz : Nat} {φ : Int32 → TI → Prop} (C : Cx p s m args meth c (AM K sz) G RX6 cX6_step 9) (hr : meth.sig.returnType = (some .int)) {a0 : Nat} {x2 : Int32} {x4 : Int32} {x6 : Int32} {x7 : Int32} {x8 : Int32}
    (h : K a0 = 17 ∧ ∃ b2, R a0 14 = some b2 ∧ K b2 = 20 ∧ vp_in x6 (N b2) ∧ (((I b2 (Int32.toNatClampNeg x6)) ≤ x8 → φ x7 I) ∧ (¬ (I b2 (Int32.toNatClampNeg x6)) ≤ x8 → ∃ b6, R a0 16 = some b6 ∧ K b6 = 20 ∧ vp_in (((10 * x6) - 10) + x8) (N b6) ∧ ∃ b10, R a0 18 = some b10 ∧ K b10 = 20 ∧ vp_in x2 (N b10) ∧ ∃ b14, R a0 19 = some b14 ∧ K b14 = 20 ∧ vp_in x2 (N b14) ∧ ∃ b18, R a0 21 = some b18 ∧ K b18 = 20 ∧ vp_in x2 (N b18) ∧ ∃ b22, R a0 22 = some b22 ∧ K b22 = 20 ∧ vp_in x2 (N b22) ∧ ∃ φ26 : Int32 → TI → Prop, MtI l G yX6_put cX6_put 9 (some .boolean) d [.ref a0, .int x4, .int (I b6 (Int32.toNatClampNeg (((10 * x6) - 10) + x8))), .int (I b10 (Int32.toNatClampNeg x2)), .int (I b14 (Int32.toNatClampNeg x2)), .int x6, .int (I b18 (Int32.toNatClampNeg x2)), .int (I b22 (Int32.toNatClampNeg x2))] K N I R L sz φ26 ∧ ∀ (r28 : Int32) (I29 : TI), φ26 r28 I29 → ((¬ r28 = 0 → (WI p l e s m args below meth c G (d + 1) φ K N R L sz 9 81 [(0, .ref a0), (2, .int x2), (4, .int x4), (6, .int x6), (7, .int x7), (8, .int (x8 + 1))] I29)) ∧ (r28 = 0 → φ 0 I29))))) :
    WI p l e s m args below meth c G (d + 1) φ K N R L sz 9 81 [(0, .ref a0), (2, .int x2), (4, .int x4), (6, .int x6), (7, .int x7), (8, .int x8)] I := by
  refine wm_iload C rfl dX6_step_81 ?_
  refine wm_aload_n C rfl dX6_step_83 ?_
  obtain ⟨hk1, h⟩ := h
  obtain ⟨b2, hr3, h⟩ := h
  refine wm_getR C fqX6_41 hk1 hr3 dX6_step_84 ?_
  refine wm_iload C rfl dX6_step_87 ?_
  obtain ⟨hk4, h⟩ := h
  obtain ⟨hi5, h⟩ := h
  refine wm_iald C hk4 hi5 dX6_step_89 ?_
  refine wm_icmp_ge C 152 dX6_step_90 (by decide) (fun q => ?_) (fun q => ?_)
  · replace h := h.1 q
    refine wm_iload C rfl dX6_step_152 ?_
    exact wm_iret C hr rfl (Nat.le_of_ble_eq_true rfl) (Nat.le_of_ble_eq_true rfl) ⟨rfl, rfl, rfl, rfl, rfl, _, rfl, h⟩ dX6_step_154
  · replace h := h.2 q
    refine wm_aload_n C rfl dX6_step_93 ?_
    refine wm_iload C rfl dX6_step_94 ?_
    refine wm_aload_n C rfl dX6_step_96 ?_
    obtain ⟨b6, hr7, h⟩ := h
    refine wm_getR C fqX6_47 hk1 hr7 dX6_step_97 ?_
    refine wm_bipush C 10 dX6_step_100 ?_ (by decide)
    refine wm_iload C rfl dX6_step_102 ?_
    refine wm_imul C dX6_step_104 ?_
    refine wm_bipush C 10 dX6_step_105 ?_ (by decide)
    refine wm_isub C dX6_step_107 ?_
    refine wm_iload C rfl dX6_step_108 ?_
    refine wm_iadd C dX6_step_110 ?_
    obtain ⟨hk8, h⟩ := h
    obtain ⟨hi9, h⟩ := h
    refine wm_iald C hk8 hi9 dX6_step_111 ?_
    refine wm_aload_n C rfl dX6_step_112 ?_
    obtain ⟨b10, hr11, h⟩ := h
    refine wm_getR C fqX6_53 hk1 hr11 dX6_step_113 ?_
    refine wm_iload_n C rfl dX6_step_116 ?_
    obtain ⟨hk12, h⟩ := h
    obtain ⟨hi13, h⟩ := h
    refine wm_iald C hk12 hi13 dX6_step_117 ?_
    refine wm_aload_n C rfl dX6_step_118 ?_
    obtain ⟨b14, hr15, h⟩ := h
    refine wm_getR C fqX6_56 hk1 hr15 dX6_step_119 ?_
    refine wm_iload_n C rfl dX6_step_122 ?_
    obtain ⟨hk16, h⟩ := h
    obtain ⟨hi17, h⟩ := h
    refine wm_iald C hk16 hi17 dX6_step_123 ?_
    refine wm_iload C rfl dX6_step_124 ?_
    refine wm_aload_n C rfl dX6_step_126 ?_
    obtain ⟨b18, hr19, h⟩ := h
    refine wm_getR C fqX6_62 hk1 hr19 dX6_step_127 ?_
    refine wm_iload_n C rfl dX6_step_130 ?_
    obtain ⟨hk20, h⟩ := h
    obtain ⟨hi21, h⟩ := h
    refine wm_iald C hk20 hi21 dX6_step_131 ?_
    refine wm_aload_n C rfl dX6_step_132 ?_
    obtain ⟨b22, hr23, h⟩ := h
    refine wm_getR C fqX6_65 hk1 hr23 dX6_step_133 ?_
    refine wm_iload_n C rfl dX6_step_136 ?_
    obtain ⟨hk24, h⟩ := h
    obtain ⟨hi25, h⟩ := h
    refine wm_iald C hk24 hi25 dX6_step_137 ?_
    obtain ⟨φ26, hM27, h⟩ := h
    refine wm_cVI7 C vqX6_115 hM27 hk1 ⟨Nat.le_refl _, Nat.le_refl _⟩ (Nat.le_of_ble_eq_true rfl) ⟨Nat.le_of_ble_eq_true rfl, Nat.le_of_ble_eq_true rfl⟩ dX6_step_138 (fun r28 I29 hφ34 => ?_)
    replace h := h r28 I29 hφ34
    refine wm_if_ne C 146 dX6_step_141 (by decide) (fun q => ?_) (fun q => ?_)
    · replace h := h.1 q
      refine wm_iinc C (x8 + 1) rfl dX6_step_146 rfl (by decide) ?_
      refine wm_goto C 81 dX6_step_149 ?_ (by decide)
      exact h
    · replace h := h.2 q
      refine wm_iconst C 0 dX6_step_144 ?_ (by decide)
      exact wm_iret C hr rfl (Nat.le_of_ble_eq_true rfl) (Nat.le_of_ble_eq_true rfl) ⟨rfl, rfl, rfl, rfl, rfl, _, rfl, h⟩ dX6_step_145
set_option maxRecDepth 100000 in
set_option maxHeartbeats 4000000 in
theorem sX6_step {l : Launch} {G : Gx} {d : Nat} {K N : TK} {I : TI} {R : TR} {L : TL} {sz : Nat} {φ : Int32 → TI → Prop} {a0 : Nat} {x1 : Int32} {x2 : Int32} {x3 : Int32} {x4 : Int32}
    (h : ∀ (p : Program) (e : Env) (s : State) (m : MethodId) (args : Array Value) (below : List Frame) (meth : Method) (c : Code), Cx p s m args meth c (AM K sz) G RX6 cX6_step 9 → meth.sig.returnType = (some .int) → (WI p l e s m args below meth c G (d + 1) φ K N R L sz 9 3 [(0, .ref a0), (1, .int x1), (2, .int x2), (3, .int x3), (4, .int x4), (5, .int 0)] I)) :
    MtI l G yX6_step cX6_step 9 (some .int) (d + 1) [.ref a0, .int x1, .int x2, .int x3, .int x4] K N I R L sz φ :=
  MetM.of (own := RX6) (by decide) rfl (catR (catI (catI (catI (catI cat0))))) (Nat.le_of_ble_eq_true rfl) (fun p e s m args below meth c C hr hnm => vX6_step_0 C hr (h p e s m args below meth c C hr))
set_option maxRecDepth 100000 in
set_option maxHeartbeats 4000000 in
theorem vX6_match_0 {p : Program} {l : Launch} {e : Env} {s : State} {m : MethodId} {args : Array Value} {below : List Frame} {meth : Method} {c : Code} {G : Gx} {d : Nat} {K N : TK} {I : TI} {R : TR} {L : TL} {sz : Nat} {φ : TI → Prop} (C : Cx p s m args meth c (AM K sz) G RX6 cX6_match 8) (hr : meth.sig.returnType = none) {a0 : Nat} {x1 : Int32} {x2 : Int32}
    (h : K a0 = 17 ∧ ∃ b2, R a0 23 = some b2 ∧ K b2 = 20 ∧ vp_in 14 (N b2) ∧ ∀ I6 : TI, I6 = u2 I b2 (Int32.toNatClampNeg 14) 0 → vp_in x1 (N b2) ∧ (WV p l e s m args below meth c G (d + 1) φ K N R L sz 8 31 [(0, .ref a0), (1, .int x1), (2, .int x2), (3, .int 14), (4, .int (302 * x1)), (5, .int ((302 * x1) + (I6 b2 (Int32.toNatClampNeg x1)))), (6, .int x2)] I6)) :
    WV p l e s m args below meth c G (d + 1) φ K N R L sz 8 0 [(0, .ref a0), (1, .int x1), (2, .int x2)] I := by
  refine wm_bipush C 14 dX6_match_0 ?_ (by decide)
  refine wm_istore_n C (by decide) dX6_match_2 ?_
  refine wm_aload_n C rfl dX6_match_3 ?_
  obtain ⟨hk1, h⟩ := h
  obtain ⟨b2, hr3, h⟩ := h
  refine wm_getR C fqX6_68 hk1 hr3 dX6_match_4 ?_
  refine wm_iload_n C rfl dX6_match_7 ?_
  refine wm_iconst C 0 dX6_match_8 ?_ (by decide)
  obtain ⟨hk4, h⟩ := h
  obtain ⟨hi5, h⟩ := h
  refine wm_iast C hk4 hi5 dX6_match_9 ?_
  refine nmI (fun I6 hI6 => ?_)
  replace h := h I6 hI6
  refine wm_sipush C 302 dX6_match_10 ?_ (by decide)
  refine wm_iload_n C rfl dX6_match_13 ?_
  refine wm_imul C dX6_match_14 ?_
  refine wm_istore C (by decide) dX6_match_15 ?_
  refine wm_iload C rfl dX6_match_17 ?_
  refine wm_aload_n C rfl dX6_match_19 ?_
  refine wm_getR C fqX6_68 hk1 hr3 dX6_match_20 ?_
  refine wm_iload_n C rfl dX6_match_23 ?_
  obtain ⟨hi7, h⟩ := h
  refine wm_iald C hk4 hi7 dX6_match_24 ?_
  refine wm_iadd C dX6_match_25 ?_
  refine wm_istore C (by decide) dX6_match_26 ?_
  refine wm_iload_n C rfl dX6_match_28 ?_
  refine wm_istore C (by decide) dX6_match_29 ?_
  exact h
set_option maxRecDepth 100000 in
set_option maxHeartbeats 4000000 in
theorem vX6_match_31 {p : Program} {l : Launch} {e : Env} {s : State} {m : MethodId} {args : Array Value} {below : List Frame} {meth : Method} {c : Code} {G : Gx} {d : Nat} {K N : TK} {I : TI} {R : TR} {L : TL} {sz : Nat} {φ : TI → Prop} (C : Cx p s m args meth c (AM K sz) G RX6 cX6_match 8) (hr : meth.sig.returnType = none) {a0 : Nat} {x1 : Int32} {x2 : Int32} {x3 : Int32} {x4 : Int32} {x5 : Int32} {x6 : Int32}
    (h : ((x5 ≤ x4 → K a0 = 17 ∧ (((I a0 28) = 0 → ∃ b2, R a0 23 = some b2 ∧ K b2 = 20 ∧ vp_in x1 (N b2) ∧ ∀ I6 : TI, I6 = u2 I b2 (Int32.toNatClampNeg x1) 0 → (WV p l e s m args below meth c G (d + 1) φ K N R L sz 8 145 [(0, .ref a0), (1, .int x1), (3, .int x3), (7, .int 0)] I6)) ∧ (¬ (I a0 28) = 0 → φ I))) ∧ (¬ x5 ≤ x4 → K a0 = 17 ∧ ((¬ (I a0 28) = 0 → (((I a0 28) = 0 → ∃ b8, R a0 23 = some b8 ∧ K b8 = 20 ∧ vp_in x1 (N b8) ∧ ∀ I12 : TI, I12 = u2 I b8 (Int32.toNatClampNeg x1) 0 → (WV p l e s m args below meth c G (d + 1) φ K N R L sz 8 145 [(0, .ref a0), (1, .int x1), (3, .int x3), (7, .int 0)] I12)) ∧ (¬ (I a0 28) = 0 → φ I))) ∧ ((I a0 28) = 0 → ((¬ x2 = 0 → ((¬ x2 = 0 → ∃ φ13 : Int32 → TI → Prop, MtI l G yX6_step cX6_step 9 (some .int) d [.ref a0, .int x6, .int x4, .int x5, .int x3] K N I R L sz φ13 ∧ ∀ (r15 : Int32) (I16 : TI), φ13 r15 I16 → (WV p l e s m args below meth c G (d + 1) φ K N R L sz 8 31 [(0, .ref a0), (1, .int x1), (2, .int x2), (3, .int x3), (4, .int r15), (5, .int x5), (6, .int x6)] I16)) ∧ (x2 = 0 → ∃ b22, R a0 17 = some b22 ∧ K b22 = 20 ∧ vp_in x4 (N b22) ∧ (((-2000) ≤ (I b22 (Int32.toNatClampNeg x4)) → ∃ φ26 : Int32 → TI → Prop, MtI l G yX6_step cX6_step 9 (some .int) d [.ref a0, .int x6, .int x4, .int x5, .int x3] K N I R L sz φ26 ∧ ∀ (r28 : Int32) (I29 : TI), φ26 r28 I29 → (WV p l e s m args below meth c G (d + 1) φ K N R L sz 8 31 [(0, .ref a0), (1, .int x1), (2, .int x2), (3, .int x3), (4, .int r28), (5, .int x5), (6, .int x6)] I29)) ∧ (¬ (-2000) ≤ (I b22 (Int32.toNatClampNeg x4)) → (WV p l e s m args below meth c G (d + 1) φ K N R L sz 8 31 [(0, .ref a0), (1, .int x1), (2, .int x2), (3, .int x3), (4, .int (x4 + 1)), (5, .int x5), (6, .int ((-2000) - (I b22 (Int32.toNatClampNeg x4))))] I)))))) ∧ (x2 = 0 → ∃ b35, R a0 17 = some b35 ∧ K b35 = 20 ∧ vp_in x4 (N b35) ∧ (((-3000) < (I b35 (Int32.toNatClampNeg x4)) → ((¬ x2 = 0 → ∃ φ39 : Int32 → TI → Prop, MtI l G yX6_step cX6_step 9 (some .int) d [.ref a0, .int x6, .int x4, .int x5, .int x3] K N I R L sz φ39 ∧ ∀ (r41 : Int32) (I42 : TI), φ39 r41 I42 → (WV p l e s m args below meth c G (d + 1) φ K N R L sz 8 31 [(0, .ref a0), (1, .int x1), (2, .int x2), (3, .int x3), (4, .int r41), (5, .int x5), (6, .int x6)] I42)) ∧ (x2 = 0 → (((-2000) ≤ (I b35 (Int32.toNatClampNeg x4)) → ∃ φ48 : Int32 → TI → Prop, MtI l G yX6_step cX6_step 9 (some .int) d [.ref a0, .int x6, .int x4, .int x5, .int x3] K N I R L sz φ48 ∧ ∀ (r50 : Int32) (I51 : TI), φ48 r50 I51 → (WV p l e s m args below meth c G (d + 1) φ K N R L sz 8 31 [(0, .ref a0), (1, .int x1), (2, .int x2), (3, .int x3), (4, .int r50), (5, .int x5), (6, .int x6)] I51)) ∧ (¬ (-2000) ≤ (I b35 (Int32.toNatClampNeg x4)) → (WV p l e s m args below meth c G (d + 1) φ K N R L sz 8 31 [(0, .ref a0), (1, .int x1), (2, .int x2), (3, .int x3), (4, .int (x4 + 1)), (5, .int x5), (6, .int ((-2000) - (I b35 (Int32.toNatClampNeg x4))))] I)))))) ∧ (¬ (-3000) < (I b35 (Int32.toNatClampNeg x4)) → (WV p l e s m args below meth c G (d + 1) φ K N R L sz 8 31 [(0, .ref a0), (1, .int x1), (2, .int x2), (3, .int x3), (4, .int (x4 + 1)), (5, .int x5), (6, .int 0)] I)))))))))) :
    WV p l e s m args below meth c G (d + 1) φ K N R L sz 8 31 [(0, .ref a0), (1, .int x1), (2, .int x2), (3, .int x3), (4, .int x4), (5, .int x5), (6, .int x6)] I := by
  refine wm_iload C rfl dX6_match_31 ?_
  refine wm_iload C rfl dX6_match_33 ?_
  refine wm_icmp_ge C 127 dX6_match_35 (by decide) (fun q => ?_) (fun q => ?_)
  · replace h := h.1 q
    refine wm_aload_n C rfl dX6_match_127 ?_
    obtain ⟨hk1, h⟩ := h
    refine wm_getI C fqX6_112 hk1 dX6_match_128 ?_
    refine wm_if_eq C 135 dX6_match_131 (by decide) (fun q => ?_) (fun q => ?_)
    · replace h := h.1 q
      refine wm_aload_n C rfl dX6_match_135 ?_
      obtain ⟨b2, hr3, h⟩ := h
      refine wm_getR C fqX6_68 hk1 hr3 dX6_match_136 ?_
      refine wm_iload_n C rfl dX6_match_139 ?_
      refine wm_iconst C 0 dX6_match_140 ?_ (by decide)
      obtain ⟨hk4, h⟩ := h
      obtain ⟨hi5, h⟩ := h
      refine wm_iast C hk4 hi5 dX6_match_141 ?_
      refine nmI (fun I6 hI6 => ?_)
      replace h := h I6 hI6
      refine wm_iconst C 0 dX6_match_142 ?_ (by decide)
      refine wm_istore C (by decide) dX6_match_143 ?_
      exact wm_pick [0, 1, 3, 7] rfl h
    · replace h := h.2 q
      exact wm_vret C hr (Nat.le_of_ble_eq_true rfl) (Nat.le_of_ble_eq_true rfl) ⟨rfl, rfl, rfl, rfl, rfl, rfl, h⟩ dX6_match_134
  · replace h := h.2 q
    refine wm_aload_n C rfl dX6_match_38 ?_
    obtain ⟨hk7, h⟩ := h
    refine wm_getI C fqX6_112 hk7 dX6_match_39 ?_
    refine wm_if_ne C 127 dX6_match_42 (by decide) (fun q => ?_) (fun q => ?_)
    · replace h := h.1 q
      refine wm_aload_n C rfl dX6_match_127 ?_
      refine wm_getI C fqX6_112 hk7 dX6_match_128 ?_
      refine wm_if_eq C 135 dX6_match_131 (by decide) (fun q => ?_) (fun q => ?_)
      · replace h := h.1 q
        refine wm_aload_n C rfl dX6_match_135 ?_
        obtain ⟨b8, hr9, h⟩ := h
        refine wm_getR C fqX6_68 hk7 hr9 dX6_match_136 ?_
        refine wm_iload_n C rfl dX6_match_139 ?_
        refine wm_iconst C 0 dX6_match_140 ?_ (by decide)
        obtain ⟨hk10, h⟩ := h
        obtain ⟨hi11, h⟩ := h
        refine wm_iast C hk10 hi11 dX6_match_141 ?_
        refine nmI (fun I12 hI12 => ?_)
        replace h := h I12 hI12
        refine wm_iconst C 0 dX6_match_142 ?_ (by decide)
        refine wm_istore C (by decide) dX6_match_143 ?_
        exact wm_pick [0, 1, 3, 7] rfl h
      · replace h := h.2 q
        exact wm_vret C hr (Nat.le_of_ble_eq_true rfl) (Nat.le_of_ble_eq_true rfl) ⟨rfl, rfl, rfl, rfl, rfl, rfl, h⟩ dX6_match_134
    · replace h := h.2 q
      refine wm_iload_n C rfl dX6_match_45 ?_
      refine wm_if_ne C 71 dX6_match_46 (by decide) (fun q => ?_) (fun q => ?_)
      · replace h := h.1 q
        refine wm_iload_n C rfl dX6_match_71 ?_
        refine wm_if_ne C 107 dX6_match_72 (by decide) (fun q => ?_) (fun q => ?_)
        · replace h := h.1 q
          refine wm_aload_n C rfl dX6_match_107 ?_
          refine wm_iload C rfl dX6_match_108 ?_
          refine wm_iload C rfl dX6_match_110 ?_
          refine wm_iload C rfl dX6_match_112 ?_
          refine wm_iload_n C rfl dX6_match_114 ?_
          obtain ⟨φ13, hM14, h⟩ := h
          refine wm_cVI4 C vqX6_143 hM14 hk7 ⟨Nat.le_refl _, Nat.le_refl _⟩ (Nat.le_of_ble_eq_true rfl) ⟨Nat.le_of_ble_eq_true rfl, Nat.le_of_ble_eq_true rfl⟩ dX6_match_115 (fun r15 I16 hφ21 => ?_)
          replace h := h r15 I16 hφ21
          refine wm_istore C (by decide) dX6_match_118 ?_
          refine wm_iload C rfl dX6_match_120 ?_
          refine wm_istore C (by decide) dX6_match_122 ?_
          refine wm_goto C 31 dX6_match_124 ?_ (by decide)
          exact wm_pick [0, 1, 2, 3, 4, 5, 6] rfl h
        · replace h := h.2 q
          refine wm_aload_n C rfl dX6_match_75 ?_
          obtain ⟨b22, hr23, h⟩ := h
          refine wm_getR C fqX6_50 hk7 hr23 dX6_match_76 ?_
          refine wm_iload C rfl dX6_match_79 ?_
          obtain ⟨hk24, h⟩ := h
          obtain ⟨hi25, h⟩ := h
          refine wm_iald C hk24 hi25 dX6_match_81 ?_
          refine wm_sipush C (-2000) dX6_match_82 ?_ (by decide)
          refine wm_icmp_ge C 107 dX6_match_85 (by decide) (fun q => ?_) (fun q => ?_)
          · replace h := h.1 q
            refine wm_aload_n C rfl dX6_match_107 ?_
            refine wm_iload C rfl dX6_match_108 ?_
            refine wm_iload C rfl dX6_match_110 ?_
            refine wm_iload C rfl dX6_match_112 ?_
            refine wm_iload_n C rfl dX6_match_114 ?_
            obtain ⟨φ26, hM27, h⟩ := h
            refine wm_cVI4 C vqX6_143 hM27 hk7 ⟨Nat.le_refl _, Nat.le_refl _⟩ (Nat.le_of_ble_eq_true rfl) ⟨Nat.le_of_ble_eq_true rfl, Nat.le_of_ble_eq_true rfl⟩ dX6_match_115 (fun r28 I29 hφ34 => ?_)
            replace h := h r28 I29 hφ34
            refine wm_istore C (by decide) dX6_match_118 ?_
            refine wm_iload C rfl dX6_match_120 ?_
            refine wm_istore C (by decide) dX6_match_122 ?_
            refine wm_goto C 31 dX6_match_124 ?_ (by decide)
            exact wm_pick [0, 1, 2, 3, 4, 5, 6] rfl h
          · replace h := h.2 q
            refine wm_sipush C (-2000) dX6_match_88 ?_ (by decide)
            refine wm_aload_n C rfl dX6_match_91 ?_
            refine wm_getR C fqX6_50 hk7 hr23 dX6_match_92 ?_
            refine wm_iload C rfl dX6_match_95 ?_
            refine wm_iald C hk24 hi25 dX6_match_97 ?_
            refine wm_isub C dX6_match_98 ?_
            refine wm_istore C (by decide) dX6_match_99 ?_
            refine wm_iinc C (x4 + 1) rfl dX6_match_101 rfl (by decide) ?_
            refine wm_goto C 31 dX6_match_104 ?_ (by decide)
            exact h
      · replace h := h.2 q
        refine wm_aload_n C rfl dX6_match_49 ?_
        obtain ⟨b35, hr36, h⟩ := h
        refine wm_getR C fqX6_50 hk7 hr36 dX6_match_50 ?_
        refine wm_iload C rfl dX6_match_53 ?_
        obtain ⟨hk37, h⟩ := h
        obtain ⟨hi38, h⟩ := h
        refine wm_iald C hk37 hi38 dX6_match_55 ?_
        refine wm_sipush C (-3000) dX6_match_56 ?_ (by decide)
        refine wm_icmp_gt C 71 dX6_match_59 (by decide) (fun q => ?_) (fun q => ?_)
        · replace h := h.1 q
          refine wm_iload_n C rfl dX6_match_71 ?_
          refine wm_if_ne C 107 dX6_match_72 (by decide) (fun q => ?_) (fun q => ?_)
          · replace h := h.1 q
            refine wm_aload_n C rfl dX6_match_107 ?_
            refine wm_iload C rfl dX6_match_108 ?_
            refine wm_iload C rfl dX6_match_110 ?_
            refine wm_iload C rfl dX6_match_112 ?_
            refine wm_iload_n C rfl dX6_match_114 ?_
            obtain ⟨φ39, hM40, h⟩ := h
            refine wm_cVI4 C vqX6_143 hM40 hk7 ⟨Nat.le_refl _, Nat.le_refl _⟩ (Nat.le_of_ble_eq_true rfl) ⟨Nat.le_of_ble_eq_true rfl, Nat.le_of_ble_eq_true rfl⟩ dX6_match_115 (fun r41 I42 hφ47 => ?_)
            replace h := h r41 I42 hφ47
            refine wm_istore C (by decide) dX6_match_118 ?_
            refine wm_iload C rfl dX6_match_120 ?_
            refine wm_istore C (by decide) dX6_match_122 ?_
            refine wm_goto C 31 dX6_match_124 ?_ (by decide)
            exact wm_pick [0, 1, 2, 3, 4, 5, 6] rfl h
          · replace h := h.2 q
            refine wm_aload_n C rfl dX6_match_75 ?_
            refine wm_getR C fqX6_50 hk7 hr36 dX6_match_76 ?_
            refine wm_iload C rfl dX6_match_79 ?_
            refine wm_iald C hk37 hi38 dX6_match_81 ?_
            refine wm_sipush C (-2000) dX6_match_82 ?_ (by decide)
            refine wm_icmp_ge C 107 dX6_match_85 (by decide) (fun q => ?_) (fun q => ?_)
            · replace h := h.1 q
              refine wm_aload_n C rfl dX6_match_107 ?_
              refine wm_iload C rfl dX6_match_108 ?_
              refine wm_iload C rfl dX6_match_110 ?_
              refine wm_iload C rfl dX6_match_112 ?_
              refine wm_iload_n C rfl dX6_match_114 ?_
              obtain ⟨φ48, hM49, h⟩ := h
              refine wm_cVI4 C vqX6_143 hM49 hk7 ⟨Nat.le_refl _, Nat.le_refl _⟩ (Nat.le_of_ble_eq_true rfl) ⟨Nat.le_of_ble_eq_true rfl, Nat.le_of_ble_eq_true rfl⟩ dX6_match_115 (fun r50 I51 hφ56 => ?_)
              replace h := h r50 I51 hφ56
              refine wm_istore C (by decide) dX6_match_118 ?_
              refine wm_iload C rfl dX6_match_120 ?_
              refine wm_istore C (by decide) dX6_match_122 ?_
              refine wm_goto C 31 dX6_match_124 ?_ (by decide)
              exact wm_pick [0, 1, 2, 3, 4, 5, 6] rfl h
            · replace h := h.2 q
              refine wm_sipush C (-2000) dX6_match_88 ?_ (by decide)
              refine wm_aload_n C rfl dX6_match_91 ?_
              refine wm_getR C fqX6_50 hk7 hr36 dX6_match_92 ?_
              refine wm_iload C rfl dX6_match_95 ?_
              refine wm_iald C hk37 hi38 dX6_match_97 ?_
              refine wm_isub C dX6_match_98 ?_
              refine wm_istore C (by decide) dX6_match_99 ?_
              refine wm_iinc C (x4 + 1) rfl dX6_match_101 rfl (by decide) ?_
              refine wm_goto C 31 dX6_match_104 ?_ (by decide)
              exact h
        · replace h := h.2 q
          refine wm_iconst C 0 dX6_match_62 ?_ (by decide)
          refine wm_istore C (by decide) dX6_match_63 ?_
          refine wm_iinc C (x4 + 1) rfl dX6_match_65 rfl (by decide) ?_
          refine wm_goto C 31 dX6_match_68 ?_ (by decide)
          exact h
set_option maxRecDepth 100000 in
set_option maxHeartbeats 4000000 in
theorem vX6_match_145 {p : Program} {l : Launch} {e : Env} {s : State} {m : MethodId} {args : Array Value} {below : List Frame} {meth : Method} {c : Code} {G : Gx} {d : Nat} {K N : TK} {I : TI} {R : TR} {L : TL} {sz : Nat} {φ : TI → Prop} (C : Cx p s m args meth c (AM K sz) G RX6 cX6_match 8) (hr : meth.sig.returnType = none) {a0 : Nat} {x1 : Int32} {x3 : Int32} {x7 : Int32}
    (h : K a0 = 17 ∧ ∃ b2, R a0 23 = some b2 ∧ K b2 = 20 ∧ vp_in x3 (N b2) ∧ (((I b2 (Int32.toNatClampNeg x3)) ≤ x7 → φ I) ∧ (¬ (I b2 (Int32.toNatClampNeg x3)) ≤ x7 → ∃ φ6 : Int32 → TI → Prop, MtI l G yX6_again cX6_again 3 (some .boolean) d [.ref a0, .int x1, .int ((302 * x3) + x7)] K N I R L sz φ6 ∧ ∀ (r8 : Int32) (I9 : TI), φ6 r8 I9 → (WV p l e s m args below meth c G (d + 1) φ K N R L sz 8 145 [(0, .ref a0), (1, .int x1), (3, .int x3), (7, .int (x7 + 1))] I9)))) :
    WV p l e s m args below meth c G (d + 1) φ K N R L sz 8 145 [(0, .ref a0), (1, .int x1), (3, .int x3), (7, .int x7)] I := by
  refine wm_iload C rfl dX6_match_145 ?_
  refine wm_aload_n C rfl dX6_match_147 ?_
  obtain ⟨hk1, h⟩ := h
  obtain ⟨b2, hr3, h⟩ := h
  refine wm_getR C fqX6_68 hk1 hr3 dX6_match_148 ?_
  refine wm_iload_n C rfl dX6_match_151 ?_
  obtain ⟨hk4, h⟩ := h
  obtain ⟨hi5, h⟩ := h
  refine wm_iald C hk4 hi5 dX6_match_152 ?_
  refine wm_icmp_ge C 176 dX6_match_153 (by decide) (fun q => ?_) (fun q => ?_)
  · replace h := h.1 q
    exact wm_vret C hr (Nat.le_of_ble_eq_true rfl) (Nat.le_of_ble_eq_true rfl) ⟨rfl, rfl, rfl, rfl, rfl, rfl, h⟩ dX6_match_176
  · replace h := h.2 q
    refine wm_aload_n C rfl dX6_match_156 ?_
    refine wm_iload_n C rfl dX6_match_157 ?_
    refine wm_sipush C 302 dX6_match_158 ?_ (by decide)
    refine wm_iload_n C rfl dX6_match_161 ?_
    refine wm_imul C dX6_match_162 ?_
    refine wm_iload C rfl dX6_match_163 ?_
    refine wm_iadd C dX6_match_165 ?_
    obtain ⟨φ6, hM7, h⟩ := h
    refine wm_cVI2 C vqX6_140 hM7 hk1 ⟨Nat.le_refl _, Nat.le_refl _⟩ (Nat.le_of_ble_eq_true rfl) ⟨Nat.le_of_ble_eq_true rfl, Nat.le_of_ble_eq_true rfl⟩ dX6_match_166 (fun r8 I9 hφ14 => ?_)
    replace h := h r8 I9 hφ14
    refine wm_pop C rfl dX6_match_169 ?_
    refine wm_iinc C (x7 + 1) rfl dX6_match_170 rfl (by decide) ?_
    refine wm_goto C 145 dX6_match_173 ?_ (by decide)
    exact h
set_option maxRecDepth 100000 in
set_option maxHeartbeats 4000000 in
theorem sX6_match {l : Launch} {G : Gx} {d : Nat} {K N : TK} {I : TI} {R : TR} {L : TL} {sz : Nat} {φ : TI → Prop} {a0 : Nat} {x1 : Int32} {x2 : Int32}
    (h : ∀ (p : Program) (e : Env) (s : State) (m : MethodId) (args : Array Value) (below : List Frame) (meth : Method) (c : Code), Cx p s m args meth c (AM K sz) G RX6 cX6_match 8 → meth.sig.returnType = none → K a0 = 17 ∧ ∃ b2, R a0 23 = some b2 ∧ K b2 = 20 ∧ vp_in 14 (N b2) ∧ ∀ I6 : TI, I6 = u2 I b2 (Int32.toNatClampNeg 14) 0 → vp_in x1 (N b2) ∧ (WV p l e s m args below meth c G (d + 1) φ K N R L sz 8 31 [(0, .ref a0), (1, .int x1), (2, .int x2), (3, .int 14), (4, .int (302 * x1)), (5, .int ((302 * x1) + (I6 b2 (Int32.toNatClampNeg x1)))), (6, .int x2)] I6)) :
    MtV l G yX6_match cX6_match 8 none (d + 1) [.ref a0, .int x1, .int x2] K N I R L sz φ :=
  MetM.of (own := RX6) (by decide) rfl (catR (catI (catI cat0))) (Nat.le_of_ble_eq_true rfl) (fun p e s m args below meth c C hr hnm => vX6_match_0 C hr (h p e s m args below meth c C hr))
set_option maxRecDepth 100000 in
set_option maxHeartbeats 4000000 in
theorem vX6_textNamed_0 {p : Program} {l : Launch} {e : Env} {s : State} {m : MethodId} {args : Array Value} {below : List Frame} {meth : Method} {c : Code} {G : Gx} {d : Nat} {K N : TK} {I : TI} {R : TR} {L : TL} {sz : Nat} {φ : Int32 → TI → Prop} (C : Cx p s m args meth c (AM K sz) G RX6 cX6_textNamed 3) (hr : meth.sig.returnType = (some .int)) {a0 : Nat} {x1 : Int32}
    (h : (WI p l e s m args below meth c G d φ K N R L sz 3 2 [(0, .ref a0), (1, .int x1), (2, .int 1)] I)) :
    WI p l e s m args below meth c G d φ K N R L sz 3 0 [(0, .ref a0), (1, .int x1)] I := by
  refine wm_iconst C 1 dX6_textNamed_0 ?_ (by decide)
  refine wm_istore_n C (by decide) dX6_textNamed_1 ?_
  exact h
set_option maxRecDepth 100000 in
set_option maxHeartbeats 4000000 in
theorem vX6_textNamed_2 {p : Program} {l : Launch} {e : Env} {s : State} {m : MethodId} {args : Array Value} {below : List Frame} {meth : Method} {c : Code} {G : Gx} {d : Nat} {K N : TK} {I : TI} {R : TR} {L : TL} {sz : Nat} {φ : Int32 → TI → Prop} (C : Cx p s m args meth c (AM K sz) G RX6 cX6_textNamed 3) (hr : meth.sig.returnType = (some .int)) {a0 : Nat} {x1 : Int32} {x2 : Int32}
    (h : K a0 = 17 ∧ (((I a0 1) < x2 → ((x2 ≤ (I a0 1) → φ x2 I) ∧ (¬ x2 ≤ (I a0 1) → φ 0 I))) ∧ (¬ (I a0 1) < x2 → ∃ b2, R a0 4 = some b2 ∧ K b2 = 20 ∧ vp_in x2 (N b2) ∧ (((I b2 (Int32.toNatClampNeg x2)) = x1 → ((x2 ≤ (I a0 1) → φ x2 I) ∧ (¬ x2 ≤ (I a0 1) → φ 0 I))) ∧ (¬ (I b2 (Int32.toNatClampNeg x2)) = x1 → (WI p l e s m args below meth c G d φ K N R L sz 3 2 [(0, .ref a0), (1, .int x1), (2, .int (x2 + 1))] I)))))) :
    WI p l e s m args below meth c G d φ K N R L sz 3 2 [(0, .ref a0), (1, .int x1), (2, .int x2)] I := by
  refine wm_iload_n C rfl dX6_textNamed_2 ?_
  refine wm_aload_n C rfl dX6_textNamed_3 ?_
  obtain ⟨hk1, h⟩ := h
  refine wm_getI C fqX6_88 hk1 dX6_textNamed_4 ?_
  refine wm_icmp_gt C 26 dX6_textNamed_7 (by decide) (fun q => ?_) (fun q => ?_)
  · replace h := h.1 q
    refine wm_iload_n C rfl dX6_textNamed_26 ?_
    refine wm_aload_n C rfl dX6_textNamed_27 ?_
    refine wm_getI C fqX6_88 hk1 dX6_textNamed_28 ?_
    refine wm_icmp_le C 38 dX6_textNamed_31 (by decide) (fun q => ?_) (fun q => ?_)
    · replace h := h.1 q
      refine wm_iload_n C rfl dX6_textNamed_38 ?_
      exact wm_iret C hr rfl (Nat.le_of_ble_eq_true rfl) (Nat.le_of_ble_eq_true rfl) ⟨rfl, rfl, rfl, rfl, rfl, _, rfl, h⟩ dX6_textNamed_39
    · replace h := h.2 q
      refine wm_iconst C 0 dX6_textNamed_34 ?_ (by decide)
      refine wm_goto C 39 dX6_textNamed_35 ?_ (by decide)
      exact wm_iret C hr rfl (Nat.le_of_ble_eq_true rfl) (Nat.le_of_ble_eq_true rfl) ⟨rfl, rfl, rfl, rfl, rfl, _, rfl, h⟩ dX6_textNamed_39
  · replace h := h.2 q
    refine wm_aload_n C rfl dX6_textNamed_10 ?_
    obtain ⟨b2, hr3, h⟩ := h
    refine wm_getR C fqX6_7 hk1 hr3 dX6_textNamed_11 ?_
    refine wm_iload_n C rfl dX6_textNamed_14 ?_
    obtain ⟨hk4, h⟩ := h
    obtain ⟨hi5, h⟩ := h
    refine wm_iald C hk4 hi5 dX6_textNamed_15 ?_
    refine wm_iload_n C rfl dX6_textNamed_16 ?_
    refine wm_icmp_eq C 26 dX6_textNamed_17 (by decide) (fun q => ?_) (fun q => ?_)
    · replace h := h.1 q
      refine wm_iload_n C rfl dX6_textNamed_26 ?_
      refine wm_aload_n C rfl dX6_textNamed_27 ?_
      refine wm_getI C fqX6_88 hk1 dX6_textNamed_28 ?_
      refine wm_icmp_le C 38 dX6_textNamed_31 (by decide) (fun q => ?_) (fun q => ?_)
      · replace h := h.1 q
        refine wm_iload_n C rfl dX6_textNamed_38 ?_
        exact wm_iret C hr rfl (Nat.le_of_ble_eq_true rfl) (Nat.le_of_ble_eq_true rfl) ⟨rfl, rfl, rfl, rfl, rfl, _, rfl, h⟩ dX6_textNamed_39
      · replace h := h.2 q
        refine wm_iconst C 0 dX6_textNamed_34 ?_ (by decide)
        refine wm_goto C 39 dX6_textNamed_35 ?_ (by decide)
        exact wm_iret C hr rfl (Nat.le_of_ble_eq_true rfl) (Nat.le_of_ble_eq_true rfl) ⟨rfl, rfl, rfl, rfl, rfl, _, rfl, h⟩ dX6_textNamed_39
    · replace h := h.2 q
      refine wm_iinc C (x2 + 1) rfl dX6_textNamed_20 rfl (by decide) ?_
      refine wm_goto C 2 dX6_textNamed_23 ?_ (by decide)
      exact h
set_option maxRecDepth 100000 in
set_option maxHeartbeats 4000000 in
theorem sX6_textNamed {l : Launch} {G : Gx} {d : Nat} {K N : TK} {I : TI} {R : TR} {L : TL} {sz : Nat} {φ : Int32 → TI → Prop} {a0 : Nat} {x1 : Int32}
    (h : ∀ (p : Program) (e : Env) (s : State) (m : MethodId) (args : Array Value) (below : List Frame) (meth : Method) (c : Code), Cx p s m args meth c (AM K sz) G RX6 cX6_textNamed 3 → meth.sig.returnType = (some .int) → (WI p l e s m args below meth c G d φ K N R L sz 3 2 [(0, .ref a0), (1, .int x1), (2, .int 1)] I)) :
    MtI l G yX6_textNamed cX6_textNamed 3 (some .int) d [.ref a0, .int x1] K N I R L sz φ :=
  MetM.of (own := RX6) (by decide) rfl (catR (catI cat0)) (Nat.le_of_ble_eq_true rfl) (fun p e s m args below meth c C hr hnm => vX6_textNamed_0 C hr (h p e s m args below meth c C hr))
set_option maxRecDepth 100000 in
set_option maxHeartbeats 4000000 in
theorem vX6_begin_0 {p : Program} {l : Launch} {e : Env} {s : State} {m : MethodId} {args : Array Value} {below : List Frame} {meth : Method} {c : Code} {G : Gx} {d : Nat} {K N : TK} {I : TI} {R : TR} {L : TL} {sz : Nat} {φ : TI → Prop} (C : Cx p s m args meth c (AM K sz) G RX6 cX6_begin 3) (hr : meth.sig.returnType = none) {a0 : Nat} {x1 : Int32} {x2 : Int32}
    (h : K a0 = 17 ∧ ∃ b2, R a0 24 = some b2 ∧ K b2 = 20 ∧ vp_in (I a0 27) (N b2) ∧ ∀ I6 : TI, I6 = u2 I b2 (Int32.toNatClampNeg (I a0 27)) x1 → ∃ b7, R a0 25 = some b7 ∧ K b7 = 20 ∧ vp_in (I6 a0 27) (N b7) ∧ ∀ I11 : TI, I11 = u2 I6 b7 (Int32.toNatClampNeg (I6 a0 27)) 0 → ∃ b12, R a0 26 = some b12 ∧ K b12 = 20 ∧ vp_in (I11 a0 27) (N b12) ∧ ∀ I16 : TI, I16 = u2 I11 b12 (Int32.toNatClampNeg (I11 a0 27)) x2 → ∃ b17, R a0 23 = some b17 ∧ K b17 = 20 ∧ vp_in (I16 a0 27) (N b17) ∧ ∀ I21 : TI, I21 = u2 I16 b17 (Int32.toNatClampNeg (I16 a0 27)) 0 → ∀ I22 : TI, I22 = u2 I21 a0 27 ((I21 a0 27) + 1) → φ I22) :
    WV p l e s m args below meth c G d φ K N R L sz 3 0 [(0, .ref a0), (1, .int x1), (2, .int x2)] I := by
  refine wm_aload_n C rfl dX6_begin_0 ?_
  obtain ⟨hk1, h⟩ := h
  obtain ⟨b2, hr3, h⟩ := h
  refine wm_getR C fqX6_71 hk1 hr3 dX6_begin_1 ?_
  refine wm_aload_n C rfl dX6_begin_4 ?_
  refine wm_getI C fqX6_147 hk1 dX6_begin_5 ?_
  refine wm_iload_n C rfl dX6_begin_8 ?_
  obtain ⟨hk4, h⟩ := h
  obtain ⟨hi5, h⟩ := h
  refine wm_iast C hk4 hi5 dX6_begin_9 ?_
  refine nmI (fun I6 hI6 => ?_)
  replace h := h I6 hI6
  refine wm_aload_n C rfl dX6_begin_10 ?_
  obtain ⟨b7, hr8, h⟩ := h
  refine wm_getR C fqX6_74 hk1 hr8 dX6_begin_11 ?_
  refine wm_aload_n C rfl dX6_begin_14 ?_
  refine wm_getI C fqX6_147 hk1 dX6_begin_15 ?_
  refine wm_iconst C 0 dX6_begin_18 ?_ (by decide)
  obtain ⟨hk9, h⟩ := h
  obtain ⟨hi10, h⟩ := h
  refine wm_iast C hk9 hi10 dX6_begin_19 ?_
  refine nmI (fun I11 hI11 => ?_)
  replace h := h I11 hI11
  refine wm_aload_n C rfl dX6_begin_20 ?_
  obtain ⟨b12, hr13, h⟩ := h
  refine wm_getR C fqX6_77 hk1 hr13 dX6_begin_21 ?_
  refine wm_aload_n C rfl dX6_begin_24 ?_
  refine wm_getI C fqX6_147 hk1 dX6_begin_25 ?_
  refine wm_iload_n C rfl dX6_begin_28 ?_
  obtain ⟨hk14, h⟩ := h
  obtain ⟨hi15, h⟩ := h
  refine wm_iast C hk14 hi15 dX6_begin_29 ?_
  refine nmI (fun I16 hI16 => ?_)
  replace h := h I16 hI16
  refine wm_aload_n C rfl dX6_begin_30 ?_
  obtain ⟨b17, hr18, h⟩ := h
  refine wm_getR C fqX6_68 hk1 hr18 dX6_begin_31 ?_
  refine wm_aload_n C rfl dX6_begin_34 ?_
  refine wm_getI C fqX6_147 hk1 dX6_begin_35 ?_
  refine wm_iconst C 0 dX6_begin_38 ?_ (by decide)
  obtain ⟨hk19, h⟩ := h
  obtain ⟨hi20, h⟩ := h
  refine wm_iast C hk19 hi20 dX6_begin_39 ?_
  refine nmI (fun I21 hI21 => ?_)
  replace h := h I21 hI21
  refine wm_aload_n C rfl dX6_begin_40 ?_
  refine wm_dup C rfl dX6_begin_41 ?_
  refine wm_getI C fqX6_147 hk1 dX6_begin_42 ?_
  refine wm_iconst C 1 dX6_begin_45 ?_ (by decide)
  refine wm_iadd C dX6_begin_46 ?_
  refine wm_putI C fqX6_147 hk1 dX6_begin_47 ?_
  refine nmI (fun I22 hI22 => ?_)
  replace h := h I22 hI22
  exact wm_vret C hr (Nat.le_of_ble_eq_true rfl) (Nat.le_of_ble_eq_true rfl) ⟨rfl, rfl, rfl, rfl, rfl, rfl, h⟩ dX6_begin_50
set_option maxRecDepth 100000 in
set_option maxHeartbeats 4000000 in
theorem sX6_begin {l : Launch} {G : Gx} {d : Nat} {K N : TK} {I : TI} {R : TR} {L : TL} {sz : Nat} {φ : TI → Prop} {a0 : Nat} {x1 : Int32} {x2 : Int32}
    (h : K a0 = 17 ∧ ∃ b2, R a0 24 = some b2 ∧ K b2 = 20 ∧ vp_in (I a0 27) (N b2) ∧ ∀ I6 : TI, I6 = u2 I b2 (Int32.toNatClampNeg (I a0 27)) x1 → ∃ b7, R a0 25 = some b7 ∧ K b7 = 20 ∧ vp_in (I6 a0 27) (N b7) ∧ ∀ I11 : TI, I11 = u2 I6 b7 (Int32.toNatClampNeg (I6 a0 27)) 0 → ∃ b12, R a0 26 = some b12 ∧ K b12 = 20 ∧ vp_in (I11 a0 27) (N b12) ∧ ∀ I16 : TI, I16 = u2 I11 b12 (Int32.toNatClampNeg (I11 a0 27)) x2 → ∃ b17, R a0 23 = some b17 ∧ K b17 = 20 ∧ vp_in (I16 a0 27) (N b17) ∧ ∀ I21 : TI, I21 = u2 I16 b17 (Int32.toNatClampNeg (I16 a0 27)) 0 → ∀ I22 : TI, I22 = u2 I21 a0 27 ((I21 a0 27) + 1) → φ I22) :
    MtV l G yX6_begin cX6_begin 3 none d [.ref a0, .int x1, .int x2] K N I R L sz φ :=
  MetM.of (own := RX6) (by decide) rfl (catR (catI (catI cat0))) (Nat.le_of_ble_eq_true rfl) (fun p e s m args below meth c C hr hnm => vX6_begin_0 C hr h)
set_option maxRecDepth 100000 in
set_option maxHeartbeats 4000000 in
theorem vX6_copied_0 {p : Program} {l : Launch} {e : Env} {s : State} {m : MethodId} {args : Array Value} {below : List Frame} {meth : Method} {c : Code} {G : Gx} {d : Nat} {K N : TK} {I : TI} {R : TR} {L : TL} {sz : Nat} {φ : TI → Prop} (C : Cx p s m args meth c (AM K sz) G RX6 cX6_copied 5) (hr : meth.sig.returnType = none) {a0 : Nat} {x1 : Int32}
    (h : K a0 = 17 ∧ ((¬ (I a0 29) = 100 → ∀ I2 : TI, I2 = u2 I a0 29 ((I a0 29) + 1) → ∃ b3, R a0 7 = some b3 ∧ K b3 = 20 ∧ vp_in x1 (N b3) ∧ ∃ φ7 : Int32 → TI → Prop, MtI l G yX6_textNamed cX6_textNamed 3 (some .int) d [.ref a0, .int (I2 b3 (Int32.toNatClampNeg x1))] K N I2 R L sz φ7 ∧ ∀ (r9 : Int32) (I10 : TI), φ7 r9 I10 → ((¬ r9 = 0 → (WV p l e s m args below meth c G (d + 1) φ K N R L sz 5 52 [(0, .ref a0), (1, .int x1), (2, .int r9), (3, .int 0)] I10)) ∧ (r9 = 0 → ∀ I16 : TI, I16 = u2 I10 a0 28 ((-10) - x1) → φ I16))) ∧ ((I a0 29) = 100 → ∀ I17 : TI, I17 = u2 I a0 28 (-3) → φ I17))) :
    WV p l e s m args below meth c G (d + 1) φ K N R L sz 5 0 [(0, .ref a0), (1, .int x1)] I := by
  refine wm_aload_n C rfl dX6_copied_0 ?_
  obtain ⟨hk1, h⟩ := h
  refine wm_getI C fqX6_150 hk1 dX6_copied_1 ?_
  refine wm_bipush C 100 dX6_copied_4 ?_ (by decide)
  refine wm_icmp_ne C 16 dX6_copied_6 (by decide) (fun q => ?_) (fun q => ?_)
  · replace h := h.1 q
    refine wm_aload_n C rfl dX6_copied_16 ?_
    refine wm_dup C rfl dX6_copied_17 ?_
    refine wm_getI C fqX6_150 hk1 dX6_copied_18 ?_
    refine wm_iconst C 1 dX6_copied_21 ?_ (by decide)
    refine wm_iadd C dX6_copied_22 ?_
    refine wm_putI C fqX6_150 hk1 dX6_copied_23 ?_
    refine nmI (fun I2 hI2 => ?_)
    replace h := h I2 hI2
    refine wm_aload_n C rfl dX6_copied_26 ?_
    refine wm_aload_n C rfl dX6_copied_27 ?_
    obtain ⟨b3, hr4, h⟩ := h
    refine wm_getR C fqX6_19 hk1 hr4 dX6_copied_28 ?_
    refine wm_iload_n C rfl dX6_copied_31 ?_
    obtain ⟨hk5, h⟩ := h
    obtain ⟨hi6, h⟩ := h
    refine wm_iald C hk5 hi6 dX6_copied_32 ?_
    obtain ⟨φ7, hM8, h⟩ := h
    refine wm_cVI1 C vqX6_153 hM8 hk1 ⟨Nat.le_refl _, Nat.le_refl _⟩ (Nat.le_of_ble_eq_true rfl) ⟨Nat.le_of_ble_eq_true rfl, Nat.le_of_ble_eq_true rfl⟩ dX6_copied_33 (fun r9 I10 hφ15 => ?_)
    replace h := h r9 I10 hφ15
    refine wm_istore_n C (by decide) dX6_copied_36 ?_
    refine wm_iload_n C rfl dX6_copied_37 ?_
    refine wm_if_ne C 50 dX6_copied_38 (by decide) (fun q => ?_) (fun q => ?_)
    · replace h := h.1 q
      refine wm_iconst C 0 dX6_copied_50 ?_ (by decide)
      refine wm_istore_n C (by decide) dX6_copied_51 ?_
      exact h
    · replace h := h.2 q
      refine wm_aload_n C rfl dX6_copied_41 ?_
      refine wm_bipush C (-10) dX6_copied_42 ?_ (by decide)
      refine wm_iload_n C rfl dX6_copied_44 ?_
      refine wm_isub C dX6_copied_45 ?_
      refine wm_putI C fqX6_112 hk1 dX6_copied_46 ?_
      refine nmI (fun I16 hI16 => ?_)
      replace h := h I16 hI16
      exact wm_vret C hr (Nat.le_of_ble_eq_true rfl) (Nat.le_of_ble_eq_true rfl) ⟨rfl, rfl, rfl, rfl, rfl, rfl, h⟩ dX6_copied_49
  · replace h := h.2 q
    refine wm_aload_n C rfl dX6_copied_9 ?_
    refine wm_bipush C (-3) dX6_copied_10 ?_ (by decide)
    refine wm_putI C fqX6_112 hk1 dX6_copied_12 ?_
    refine nmI (fun I17 hI17 => ?_)
    replace h := h I17 hI17
    exact wm_vret C hr (Nat.le_of_ble_eq_true rfl) (Nat.le_of_ble_eq_true rfl) ⟨rfl, rfl, rfl, rfl, rfl, rfl, h⟩ dX6_copied_15
set_option maxRecDepth 100000 in
set_option maxHeartbeats 4000000 in
theorem vX6_copied_52 {p : Program} {l : Launch} {e : Env} {s : State} {m : MethodId} {args : Array Value} {below : List Frame} {meth : Method} {c : Code} {G : Gx} {d : Nat} {K N : TK} {I : TI} {R : TR} {L : TL} {sz : Nat} {φ : TI → Prop} (C : Cx p s m args meth c (AM K sz) G RX6 cX6_copied 5) (hr : meth.sig.returnType = none) {a0 : Nat} {x1 : Int32} {x2 : Int32} {x3 : Int32}
    (h : K a0 = 17 ∧ (((I a0 27) ≤ x3 → ((¬ x3 = (I a0 27) → ∀ I2 : TI, I2 = u2 I a0 28 (-1) → (WV p l e s m args below meth c G (d + 1) φ K N R L sz 5 99 [(0, .ref a0), (4, .int x3)] I2)) ∧ (x3 = (I a0 27) → ∃ φ3 : TI → Prop, MtV l G yX6_begin cX6_begin 3 none d [.ref a0, .int x2, .int x1] K N I R L sz φ3 ∧ ∀ (I6 : TI), φ3 I6 → φ I6))) ∧ (¬ (I a0 27) ≤ x3 → ∃ b12, R a0 24 = some b12 ∧ K b12 = 20 ∧ vp_in x3 (N b12) ∧ (((I b12 (Int32.toNatClampNeg x3)) = x2 → ((¬ x3 = (I a0 27) → ∀ I16 : TI, I16 = u2 I a0 28 (-1) → (WV p l e s m args below meth c G (d + 1) φ K N R L sz 5 99 [(0, .ref a0), (4, .int x3)] I16)) ∧ (x3 = (I a0 27) → ∃ φ17 : TI → Prop, MtV l G yX6_begin cX6_begin 3 none d [.ref a0, .int x2, .int x1] K N I R L sz φ17 ∧ ∀ (I20 : TI), φ17 I20 → φ I20))) ∧ (¬ (I b12 (Int32.toNatClampNeg x3)) = x2 → (WV p l e s m args below meth c G (d + 1) φ K N R L sz 5 52 [(0, .ref a0), (1, .int x1), (2, .int x2), (3, .int (x3 + 1))] I)))))) :
    WV p l e s m args below meth c G (d + 1) φ K N R L sz 5 52 [(0, .ref a0), (1, .int x1), (2, .int x2), (3, .int x3)] I := by
  refine wm_iload_n C rfl dX6_copied_52 ?_
  refine wm_aload_n C rfl dX6_copied_53 ?_
  obtain ⟨hk1, h⟩ := h
  refine wm_getI C fqX6_147 hk1 dX6_copied_54 ?_
  refine wm_icmp_ge C 76 dX6_copied_57 (by decide) (fun q => ?_) (fun q => ?_)
  · replace h := h.1 q
    refine wm_iload_n C rfl dX6_copied_76 ?_
    refine wm_aload_n C rfl dX6_copied_77 ?_
    refine wm_getI C fqX6_147 hk1 dX6_copied_78 ?_
    refine wm_icmp_ne C 91 dX6_copied_81 (by decide) (fun q => ?_) (fun q => ?_)
    · replace h := h.1 q
      refine wm_aload_n C rfl dX6_copied_91 ?_
      refine wm_iconst C (-1) dX6_copied_92 ?_ (by decide)
      refine wm_putI C fqX6_112 hk1 dX6_copied_93 ?_
      refine nmI (fun I2 hI2 => ?_)
      replace h := h I2 hI2
      refine wm_iload_n C rfl dX6_copied_96 ?_
      refine wm_istore C (by decide) dX6_copied_97 ?_
      exact wm_pick [0, 4] rfl h
    · replace h := h.2 q
      refine wm_aload_n C rfl dX6_copied_84 ?_
      refine wm_iload_n C rfl dX6_copied_85 ?_
      refine wm_iload_n C rfl dX6_copied_86 ?_
      obtain ⟨φ3, hM4, h⟩ := h
      refine wm_cVV2 C vqX6_156 hM4 hk1 ⟨Nat.le_refl _, Nat.le_refl _⟩ (Nat.le_of_ble_eq_true rfl) ⟨Nat.le_of_ble_eq_true rfl, Nat.le_of_ble_eq_true rfl⟩ dX6_copied_87 (fun I6 hφ11 => ?_)
      replace h := h I6 hφ11
      exact wm_vret C hr (Nat.le_of_ble_eq_true rfl) (Nat.le_of_ble_eq_true rfl) ⟨rfl, rfl, rfl, rfl, rfl, rfl, h⟩ dX6_copied_90
  · replace h := h.2 q
    refine wm_aload_n C rfl dX6_copied_60 ?_
    obtain ⟨b12, hr13, h⟩ := h
    refine wm_getR C fqX6_71 hk1 hr13 dX6_copied_61 ?_
    refine wm_iload_n C rfl dX6_copied_64 ?_
    obtain ⟨hk14, h⟩ := h
    obtain ⟨hi15, h⟩ := h
    refine wm_iald C hk14 hi15 dX6_copied_65 ?_
    refine wm_iload_n C rfl dX6_copied_66 ?_
    refine wm_icmp_eq C 76 dX6_copied_67 (by decide) (fun q => ?_) (fun q => ?_)
    · replace h := h.1 q
      refine wm_iload_n C rfl dX6_copied_76 ?_
      refine wm_aload_n C rfl dX6_copied_77 ?_
      refine wm_getI C fqX6_147 hk1 dX6_copied_78 ?_
      refine wm_icmp_ne C 91 dX6_copied_81 (by decide) (fun q => ?_) (fun q => ?_)
      · replace h := h.1 q
        refine wm_aload_n C rfl dX6_copied_91 ?_
        refine wm_iconst C (-1) dX6_copied_92 ?_ (by decide)
        refine wm_putI C fqX6_112 hk1 dX6_copied_93 ?_
        refine nmI (fun I16 hI16 => ?_)
        replace h := h I16 hI16
        refine wm_iload_n C rfl dX6_copied_96 ?_
        refine wm_istore C (by decide) dX6_copied_97 ?_
        exact wm_pick [0, 4] rfl h
      · replace h := h.2 q
        refine wm_aload_n C rfl dX6_copied_84 ?_
        refine wm_iload_n C rfl dX6_copied_85 ?_
        refine wm_iload_n C rfl dX6_copied_86 ?_
        obtain ⟨φ17, hM18, h⟩ := h
        refine wm_cVV2 C vqX6_156 hM18 hk1 ⟨Nat.le_refl _, Nat.le_refl _⟩ (Nat.le_of_ble_eq_true rfl) ⟨Nat.le_of_ble_eq_true rfl, Nat.le_of_ble_eq_true rfl⟩ dX6_copied_87 (fun I20 hφ25 => ?_)
        replace h := h I20 hφ25
        exact wm_vret C hr (Nat.le_of_ble_eq_true rfl) (Nat.le_of_ble_eq_true rfl) ⟨rfl, rfl, rfl, rfl, rfl, rfl, h⟩ dX6_copied_90
    · replace h := h.2 q
      refine wm_iinc C (x3 + 1) rfl dX6_copied_70 rfl (by decide) ?_
      refine wm_goto C 52 dX6_copied_73 ?_ (by decide)
      exact h
set_option maxRecDepth 100000 in
set_option maxHeartbeats 4000000 in
theorem vX6_copied_99 {p : Program} {l : Launch} {e : Env} {s : State} {m : MethodId} {args : Array Value} {below : List Frame} {meth : Method} {c : Code} {G : Gx} {d : Nat} {K N : TK} {I : TI} {R : TR} {L : TL} {sz : Nat} {φ : TI → Prop} (C : Cx p s m args meth c (AM K sz) G RX6 cX6_copied 5) (hr : meth.sig.returnType = none) {a0 : Nat} {x4 : Int32}
    (h : K a0 = 17 ∧ (((I a0 27) ≤ x4 → φ I) ∧ (¬ (I a0 27) ≤ x4 → ∃ b2, R a0 33 = some b2 ∧ ∃ b4, R a0 4 = some b4 ∧ ∃ b6, R a0 24 = some b6 ∧ K b6 = 20 ∧ vp_in x4 (N b6) ∧ K b4 = 20 ∧ vp_in (I b6 (Int32.toNatClampNeg x4)) (N b4) ∧ K b2 = 20 ∧ vp_in (I a0 31) (N b2) ∧ ∀ I14 : TI, I14 = u2 I b2 (Int32.toNatClampNeg (I a0 31)) (I b4 (Int32.toNatClampNeg (I b6 (Int32.toNatClampNeg x4)))) → ∀ I15 : TI, I15 = u2 I14 a0 31 ((I14 a0 31) + 1) → (WV p l e s m args below meth c G (d + 1) φ K N R L sz 5 99 [(0, .ref a0), (4, .int (x4 + 1))] I15)))) :
    WV p l e s m args below meth c G (d + 1) φ K N R L sz 5 99 [(0, .ref a0), (4, .int x4)] I := by
  refine wm_iload C rfl dX6_copied_99 ?_
  refine wm_aload_n C rfl dX6_copied_101 ?_
  obtain ⟨hk1, h⟩ := h
  refine wm_getI C fqX6_147 hk1 dX6_copied_102 ?_
  refine wm_icmp_ge C 145 dX6_copied_105 (by decide) (fun q => ?_) (fun q => ?_)
  · replace h := h.1 q
    exact wm_vret C hr (Nat.le_of_ble_eq_true rfl) (Nat.le_of_ble_eq_true rfl) ⟨rfl, rfl, rfl, rfl, rfl, rfl, h⟩ dX6_copied_145
  · replace h := h.2 q
    refine wm_aload_n C rfl dX6_copied_108 ?_
    obtain ⟨b2, hr3, h⟩ := h
    refine wm_getR C fqX6_80 hk1 hr3 dX6_copied_109 ?_
    refine wm_aload_n C rfl dX6_copied_112 ?_
    refine wm_getI C fqX6_160 hk1 dX6_copied_113 ?_
    refine wm_aload_n C rfl dX6_copied_116 ?_
    obtain ⟨b4, hr5, h⟩ := h
    refine wm_getR C fqX6_7 hk1 hr5 dX6_copied_117 ?_
    refine wm_aload_n C rfl dX6_copied_120 ?_
    obtain ⟨b6, hr7, h⟩ := h
    refine wm_getR C fqX6_71 hk1 hr7 dX6_copied_121 ?_
    refine wm_iload C rfl dX6_copied_124 ?_
    obtain ⟨hk8, h⟩ := h
    obtain ⟨hi9, h⟩ := h
    refine wm_iald C hk8 hi9 dX6_copied_126 ?_
    obtain ⟨hk10, h⟩ := h
    obtain ⟨hi11, h⟩ := h
    refine wm_iald C hk10 hi11 dX6_copied_127 ?_
    obtain ⟨hk12, h⟩ := h
    obtain ⟨hi13, h⟩ := h
    refine wm_iast C hk12 hi13 dX6_copied_128 ?_
    refine nmI (fun I14 hI14 => ?_)
    replace h := h I14 hI14
    refine wm_aload_n C rfl dX6_copied_129 ?_
    refine wm_dup C rfl dX6_copied_130 ?_
    refine wm_getI C fqX6_160 hk1 dX6_copied_131 ?_
    refine wm_iconst C 1 dX6_copied_134 ?_ (by decide)
    refine wm_iadd C dX6_copied_135 ?_
    refine wm_putI C fqX6_160 hk1 dX6_copied_136 ?_
    refine nmI (fun I15 hI15 => ?_)
    replace h := h I15 hI15
    refine wm_iinc C (x4 + 1) rfl dX6_copied_139 rfl (by decide) ?_
    refine wm_goto C 99 dX6_copied_142 ?_ (by decide)
    exact h
set_option maxRecDepth 100000 in
set_option maxHeartbeats 4000000 in
theorem sX6_copied {l : Launch} {G : Gx} {d : Nat} {K N : TK} {I : TI} {R : TR} {L : TL} {sz : Nat} {φ : TI → Prop} {a0 : Nat} {x1 : Int32}
    (h : ∀ (p : Program) (e : Env) (s : State) (m : MethodId) (args : Array Value) (below : List Frame) (meth : Method) (c : Code), Cx p s m args meth c (AM K sz) G RX6 cX6_copied 5 → meth.sig.returnType = none → K a0 = 17 ∧ ((¬ (I a0 29) = 100 → ∀ I2 : TI, I2 = u2 I a0 29 ((I a0 29) + 1) → ∃ b3, R a0 7 = some b3 ∧ K b3 = 20 ∧ vp_in x1 (N b3) ∧ ∃ φ7 : Int32 → TI → Prop, MtI l G yX6_textNamed cX6_textNamed 3 (some .int) d [.ref a0, .int (I2 b3 (Int32.toNatClampNeg x1))] K N I2 R L sz φ7 ∧ ∀ (r9 : Int32) (I10 : TI), φ7 r9 I10 → ((¬ r9 = 0 → (WV p l e s m args below meth c G (d + 1) φ K N R L sz 5 52 [(0, .ref a0), (1, .int x1), (2, .int r9), (3, .int 0)] I10)) ∧ (r9 = 0 → ∀ I16 : TI, I16 = u2 I10 a0 28 ((-10) - x1) → φ I16))) ∧ ((I a0 29) = 100 → ∀ I17 : TI, I17 = u2 I a0 28 (-3) → φ I17))) :
    MtV l G yX6_copied cX6_copied 5 none (d + 1) [.ref a0, .int x1] K N I R L sz φ :=
  MetM.of (own := RX6) (by decide) rfl (catR (catI cat0)) (Nat.le_of_ble_eq_true rfl) (fun p e s m args below meth c C hr hnm => vX6_copied_0 C hr (h p e s m args below meth c C hr))
set_option maxRecDepth 100000 in
set_option maxHeartbeats 4000000 in
theorem vX6_end_0 {p : Program} {l : Launch} {e : Env} {s : State} {m : MethodId} {args : Array Value} {below : List Frame} {meth : Method} {c : Code} {G : Gx} {d : Nat} {K N : TK} {I : TI} {R : TR} {L : TL} {sz : Nat} {φ : TI → Prop} (C : Cx p s m args meth c (AM K sz) G RX6 cX6_end 5) (hr : meth.sig.returnType = none) {a0 : Nat}
    (h : K a0 = 17 ∧ ∃ b2, R a0 26 = some b2 ∧ K b2 = 20 ∧ vp_in ((I a0 27) - 1) (N b2) ∧ ∃ φ6 : TI → Prop, MtV l G yX6_match cX6_match 8 none d [.ref a0, .int ((I a0 27) - 1), .int (I b2 (Int32.toNatClampNeg ((I a0 27) - 1)))] K N I R L sz φ6 ∧ ∀ (I9 : TI), φ6 I9 → ((¬ (I9 a0 27) = 1 → (WV p l e s m args below meth c G (d + 1) φ K N R L sz 5 31 [(0, .ref a0), (1, .int ((I a0 27) - 1)), (2, .int (I b2 (Int32.toNatClampNeg ((I a0 27) - 1)))), (3, .int 0)] I9)) ∧ ((I9 a0 27) = 1 → φ I9))) :
    WV p l e s m args below meth c G (d + 1) φ K N R L sz 5 0 [(0, .ref a0)] I := by
  refine wm_aload_n C rfl dX6_end_0 ?_
  obtain ⟨hk1, h⟩ := h
  refine wm_getI C fqX6_147 hk1 dX6_end_1 ?_
  refine wm_iconst C 1 dX6_end_4 ?_ (by decide)
  refine wm_isub C dX6_end_5 ?_
  refine wm_istore_n C (by decide) dX6_end_6 ?_
  refine wm_aload_n C rfl dX6_end_7 ?_
  obtain ⟨b2, hr3, h⟩ := h
  refine wm_getR C fqX6_77 hk1 hr3 dX6_end_8 ?_
  refine wm_iload_n C rfl dX6_end_11 ?_
  obtain ⟨hk4, h⟩ := h
  obtain ⟨hi5, h⟩ := h
  refine wm_iald C hk4 hi5 dX6_end_12 ?_
  refine wm_istore_n C (by decide) dX6_end_13 ?_
  refine wm_aload_n C rfl dX6_end_14 ?_
  refine wm_iload_n C rfl dX6_end_15 ?_
  refine wm_iload_n C rfl dX6_end_16 ?_
  obtain ⟨φ6, hM7, h⟩ := h
  refine wm_cVV2 C vqX6_163 hM7 hk1 ⟨Nat.le_refl _, Nat.le_refl _⟩ (Nat.le_of_ble_eq_true rfl) ⟨Nat.le_of_ble_eq_true rfl, Nat.le_of_ble_eq_true rfl⟩ dX6_end_17 (fun I9 hφ14 => ?_)
  replace h := h I9 hφ14
  refine wm_aload_n C rfl dX6_end_20 ?_
  refine wm_getI C fqX6_147 hk1 dX6_end_21 ?_
  refine wm_iconst C 1 dX6_end_24 ?_ (by decide)
  refine wm_icmp_ne C 29 dX6_end_25 (by decide) (fun q => ?_) (fun q => ?_)
  · replace h := h.1 q
    refine wm_iconst C 0 dX6_end_29 ?_ (by decide)
    refine wm_istore_n C (by decide) dX6_end_30 ?_
    exact h
  · replace h := h.2 q
    exact wm_vret C hr (Nat.le_of_ble_eq_true rfl) (Nat.le_of_ble_eq_true rfl) ⟨rfl, rfl, rfl, rfl, rfl, rfl, h⟩ dX6_end_28
set_option maxRecDepth 100000 in
set_option maxHeartbeats 4000000 in
theorem vX6_end_31 {p : Program} {l : Launch} {e : Env} {s : State} {m : MethodId} {args : Array Value} {below : List Frame} {meth : Method} {c : Code} {G : Gx} {d : Nat} {K N : TK} {I : TI} {R : TR} {L : TL} {sz : Nat} {φ : TI → Prop} (C : Cx p s m args meth c (AM K sz) G RX6 cX6_end 5) (hr : meth.sig.returnType = none) {a0 : Nat} {x1 : Int32} {x2 : Int32} {x3 : Int32}
    (h : K a0 = 17 ∧ ∃ b2, R a0 23 = some b2 ∧ K b2 = 20 ∧ vp_in x1 (N b2) ∧ (((I b2 (Int32.toNatClampNeg x1)) ≤ x3 → ∀ I6 : TI, I6 = u2 I a0 27 ((I a0 27) - 1) → φ I6) ∧ (¬ (I b2 (Int32.toNatClampNeg x1)) ≤ x3 → ((¬ (I a0 28) = 0 → ∀ I7 : TI, I7 = u2 I a0 27 ((I a0 27) - 1) → φ I7) ∧ ((I a0 28) = 0 → ∃ b8, R a0 17 = some b8 ∧ K b8 = 20 ∧ vp_in ((302 * x1) + x3) (N b8) ∧ ∃ b12, R a0 18 = some b12 ∧ K b12 = 20 ∧ vp_in ((302 * x1) + x3) (N b12) ∧ ∃ b16, R a0 19 = some b16 ∧ K b16 = 20 ∧ vp_in ((302 * x1) + x3) (N b16) ∧ ∃ b20, R a0 20 = some b20 ∧ K b20 = 20 ∧ vp_in ((302 * x1) + x3) (N b20) ∧ ∃ b24, R a0 11 = some b24 ∧ K b24 = 21 ∧ vp_in x2 (N b24) ∧ (((I b24 (Int32.toNatClampNeg x2)) = 0 → ∃ b28, R a0 21 = some b28 ∧ K b28 = 20 ∧ vp_in ((302 * x1) + x3) (N b28) ∧ ∃ b32, R a0 22 = some b32 ∧ K b32 = 20 ∧ vp_in ((302 * x1) + x3) (N b32) ∧ ∃ φ36 : Int32 → TI → Prop, MtI l G yX6_put cX6_put 9 (some .boolean) d [.ref a0, .int (x1 - 1), .int (I b8 (Int32.toNatClampNeg ((302 * x1) + x3))), .int (I b12 (Int32.toNatClampNeg ((302 * x1) + x3))), .int (I b16 (Int32.toNatClampNeg ((302 * x1) + x3))), .int (I b20 (Int32.toNatClampNeg ((302 * x1) + x3))), .int (I b28 (Int32.toNatClampNeg ((302 * x1) + x3))), .int ((I b32 (Int32.toNatClampNeg ((302 * x1) + x3))) + 1)] K N I R L sz φ36 ∧ ∀ (r38 : Int32) (I39 : TI), φ36 r38 I39 → (WV p l e s m args below meth c G (d + 1) φ K N R L sz 5 31 [(0, .ref a0), (1, .int x1), (2, .int x2), (3, .int (x3 + 1))] I39)) ∧ (¬ (I b24 (Int32.toNatClampNeg x2)) = 0 → ∃ b45, R a0 22 = some b45 ∧ K b45 = 20 ∧ vp_in ((302 * x1) + x3) (N b45) ∧ ∃ φ49 : Int32 → TI → Prop, MtI l G yX6_put cX6_put 9 (some .boolean) d [.ref a0, .int (x1 - 1), .int (I b8 (Int32.toNatClampNeg ((302 * x1) + x3))), .int (I b12 (Int32.toNatClampNeg ((302 * x1) + x3))), .int (I b16 (Int32.toNatClampNeg ((302 * x1) + x3))), .int (I b20 (Int32.toNatClampNeg ((302 * x1) + x3))), .int 1, .int ((I b45 (Int32.toNatClampNeg ((302 * x1) + x3))) + 1)] K N I R L sz φ49 ∧ ∀ (r51 : Int32) (I52 : TI), φ49 r51 I52 → (WV p l e s m args below meth c G (d + 1) φ K N R L sz 5 31 [(0, .ref a0), (1, .int x1), (2, .int x2), (3, .int (x3 + 1))] I52)))))))) :
    WV p l e s m args below meth c G (d + 1) φ K N R L sz 5 31 [(0, .ref a0), (1, .int x1), (2, .int x2), (3, .int x3)] I := by
  refine wm_iload_n C rfl dX6_end_31 ?_
  refine wm_aload_n C rfl dX6_end_32 ?_
  obtain ⟨hk1, h⟩ := h
  obtain ⟨b2, hr3, h⟩ := h
  refine wm_getR C fqX6_68 hk1 hr3 dX6_end_33 ?_
  refine wm_iload_n C rfl dX6_end_36 ?_
  obtain ⟨hk4, h⟩ := h
  obtain ⟨hi5, h⟩ := h
  refine wm_iald C hk4 hi5 dX6_end_37 ?_
  refine wm_icmp_ge C 128 dX6_end_38 (by decide) (fun q => ?_) (fun q => ?_)
  · replace h := h.1 q
    refine wm_aload_n C rfl dX6_end_128 ?_
    refine wm_dup C rfl dX6_end_129 ?_
    refine wm_getI C fqX6_147 hk1 dX6_end_130 ?_
    refine wm_iconst C 1 dX6_end_133 ?_ (by decide)
    refine wm_isub C dX6_end_134 ?_
    refine wm_putI C fqX6_147 hk1 dX6_end_135 ?_
    refine nmI (fun I6 hI6 => ?_)
    replace h := h I6 hI6
    exact wm_vret C hr (Nat.le_of_ble_eq_true rfl) (Nat.le_of_ble_eq_true rfl) ⟨rfl, rfl, rfl, rfl, rfl, rfl, h⟩ dX6_end_138
  · replace h := h.2 q
    refine wm_aload_n C rfl dX6_end_41 ?_
    refine wm_getI C fqX6_112 hk1 dX6_end_42 ?_
    refine wm_if_ne C 128 dX6_end_45 (by decide) (fun q => ?_) (fun q => ?_)
    · replace h := h.1 q
      refine wm_aload_n C rfl dX6_end_128 ?_
      refine wm_dup C rfl dX6_end_129 ?_
      refine wm_getI C fqX6_147 hk1 dX6_end_130 ?_
      refine wm_iconst C 1 dX6_end_133 ?_ (by decide)
      refine wm_isub C dX6_end_134 ?_
      refine wm_putI C fqX6_147 hk1 dX6_end_135 ?_
      refine nmI (fun I7 hI7 => ?_)
      replace h := h I7 hI7
      exact wm_vret C hr (Nat.le_of_ble_eq_true rfl) (Nat.le_of_ble_eq_true rfl) ⟨rfl, rfl, rfl, rfl, rfl, rfl, h⟩ dX6_end_138
    · replace h := h.2 q
      refine wm_sipush C 302 dX6_end_48 ?_ (by decide)
      refine wm_iload_n C rfl dX6_end_51 ?_
      refine wm_imul C dX6_end_52 ?_
      refine wm_iload_n C rfl dX6_end_53 ?_
      refine wm_iadd C dX6_end_54 ?_
      refine wm_istore C (by decide) dX6_end_55 ?_
      refine wm_aload_n C rfl dX6_end_57 ?_
      refine wm_iload_n C rfl dX6_end_58 ?_
      refine wm_iconst C 1 dX6_end_59 ?_ (by decide)
      refine wm_isub C dX6_end_60 ?_
      refine wm_aload_n C rfl dX6_end_61 ?_
      obtain ⟨b8, hr9, h⟩ := h
      refine wm_getR C fqX6_50 hk1 hr9 dX6_end_62 ?_
      refine wm_iload C rfl dX6_end_65 ?_
      obtain ⟨hk10, h⟩ := h
      obtain ⟨hi11, h⟩ := h
      refine wm_iald C hk10 hi11 dX6_end_67 ?_
      refine wm_aload_n C rfl dX6_end_68 ?_
      obtain ⟨b12, hr13, h⟩ := h
      refine wm_getR C fqX6_53 hk1 hr13 dX6_end_69 ?_
      refine wm_iload C rfl dX6_end_72 ?_
      obtain ⟨hk14, h⟩ := h
      obtain ⟨hi15, h⟩ := h
      refine wm_iald C hk14 hi15 dX6_end_74 ?_
      refine wm_aload_n C rfl dX6_end_75 ?_
      obtain ⟨b16, hr17, h⟩ := h
      refine wm_getR C fqX6_56 hk1 hr17 dX6_end_76 ?_
      refine wm_iload C rfl dX6_end_79 ?_
      obtain ⟨hk18, h⟩ := h
      obtain ⟨hi19, h⟩ := h
      refine wm_iald C hk18 hi19 dX6_end_81 ?_
      refine wm_aload_n C rfl dX6_end_82 ?_
      obtain ⟨b20, hr21, h⟩ := h
      refine wm_getR C fqX6_59 hk1 hr21 dX6_end_83 ?_
      refine wm_iload C rfl dX6_end_86 ?_
      obtain ⟨hk22, h⟩ := h
      obtain ⟨hi23, h⟩ := h
      refine wm_iald C hk22 hi23 dX6_end_88 ?_
      refine wm_aload_n C rfl dX6_end_89 ?_
      obtain ⟨b24, hr25, h⟩ := h
      refine wm_getR C fqX6_32 hk1 hr25 dX6_end_90 ?_
      refine wm_iload_n C rfl dX6_end_93 ?_
      obtain ⟨hk26, h⟩ := h
      obtain ⟨hi27, h⟩ := h
      refine wm_zald C hk26 hi27 dX6_end_94 ?_
      refine wm_if_eq C 102 dX6_end_95 (by decide) (fun q => ?_) (fun q => ?_)
      · replace h := h.1 q
        refine wm_aload_n C rfl dX6_end_102 ?_
        obtain ⟨b28, hr29, h⟩ := h
        refine wm_getR C fqX6_62 hk1 hr29 dX6_end_103 ?_
        refine wm_iload C rfl dX6_end_106 ?_
        obtain ⟨hk30, h⟩ := h
        obtain ⟨hi31, h⟩ := h
        refine wm_iald C hk30 hi31 dX6_end_108 ?_
        refine wm_aload_n C rfl dX6_end_109 ?_
        obtain ⟨b32, hr33, h⟩ := h
        refine wm_getR C fqX6_65 hk1 hr33 dX6_end_110 ?_
        refine wm_iload C rfl dX6_end_113 ?_
        obtain ⟨hk34, h⟩ := h
        obtain ⟨hi35, h⟩ := h
        refine wm_iald C hk34 hi35 dX6_end_115 ?_
        refine wm_iconst C 1 dX6_end_116 ?_ (by decide)
        refine wm_iadd C dX6_end_117 ?_
        obtain ⟨φ36, hM37, h⟩ := h
        refine wm_cVI7 C vqX6_115 hM37 hk1 ⟨Nat.le_refl _, Nat.le_refl _⟩ (Nat.le_of_ble_eq_true rfl) ⟨Nat.le_of_ble_eq_true rfl, Nat.le_of_ble_eq_true rfl⟩ dX6_end_118 (fun r38 I39 hφ44 => ?_)
        replace h := h r38 I39 hφ44
        refine wm_pop C rfl dX6_end_121 ?_
        refine wm_iinc C (x3 + 1) rfl dX6_end_122 rfl (by decide) ?_
        refine wm_goto C 31 dX6_end_125 ?_ (by decide)
        exact wm_pick [0, 1, 2, 3] rfl h
      · replace h := h.2 q
        refine wm_iconst C 1 dX6_end_98 ?_ (by decide)
        refine wm_goto C 109 dX6_end_99 ?_ (by decide)
        refine wm_aload_n C rfl dX6_end_109 ?_
        obtain ⟨b45, hr46, h⟩ := h
        refine wm_getR C fqX6_65 hk1 hr46 dX6_end_110 ?_
        refine wm_iload C rfl dX6_end_113 ?_
        obtain ⟨hk47, h⟩ := h
        obtain ⟨hi48, h⟩ := h
        refine wm_iald C hk47 hi48 dX6_end_115 ?_
        refine wm_iconst C 1 dX6_end_116 ?_ (by decide)
        refine wm_iadd C dX6_end_117 ?_
        obtain ⟨φ49, hM50, h⟩ := h
        refine wm_cVI7 C vqX6_115 hM50 hk1 ⟨Nat.le_refl _, Nat.le_refl _⟩ (Nat.le_of_ble_eq_true rfl) ⟨Nat.le_of_ble_eq_true rfl, Nat.le_of_ble_eq_true rfl⟩ dX6_end_118 (fun r51 I52 hφ57 => ?_)
        replace h := h r51 I52 hφ57
        refine wm_pop C rfl dX6_end_121 ?_
        refine wm_iinc C (x3 + 1) rfl dX6_end_122 rfl (by decide) ?_
        refine wm_goto C 31 dX6_end_125 ?_ (by decide)
        exact wm_pick [0, 1, 2, 3] rfl h
set_option maxRecDepth 100000 in
set_option maxHeartbeats 4000000 in
theorem sX6_end {l : Launch} {G : Gx} {d : Nat} {K N : TK} {I : TI} {R : TR} {L : TL} {sz : Nat} {φ : TI → Prop} {a0 : Nat}
    (h : ∀ (p : Program) (e : Env) (s : State) (m : MethodId) (args : Array Value) (below : List Frame) (meth : Method) (c : Code), Cx p s m args meth c (AM K sz) G RX6 cX6_end 5 → meth.sig.returnType = none → K a0 = 17 ∧ ∃ b2, R a0 26 = some b2 ∧ K b2 = 20 ∧ vp_in ((I a0 27) - 1) (N b2) ∧ ∃ φ6 : TI → Prop, MtV l G yX6_match cX6_match 8 none d [.ref a0, .int ((I a0 27) - 1), .int (I b2 (Int32.toNatClampNeg ((I a0 27) - 1)))] K N I R L sz φ6 ∧ ∀ (I9 : TI), φ6 I9 → ((¬ (I9 a0 27) = 1 → (WV p l e s m args below meth c G (d + 1) φ K N R L sz 5 31 [(0, .ref a0), (1, .int ((I a0 27) - 1)), (2, .int (I b2 (Int32.toNatClampNeg ((I a0 27) - 1)))), (3, .int 0)] I9)) ∧ ((I9 a0 27) = 1 → φ I9))) :
    MtV l G yX6_end cX6_end 5 none (d + 1) [.ref a0] K N I R L sz φ :=
  MetM.of (own := RX6) (by decide) rfl (catR cat0) (Nat.le_of_ble_eq_true rfl) (fun p e s m args below meth c C hr hnm => vX6_end_0 C hr (h p e s m args below meth c C hr))
set_option maxRecDepth 100000 in
set_option maxHeartbeats 4000000 in
theorem vX6_run_0 {p : Program} {l : Launch} {e : Env} {s : State} {m : MethodId} {args : Array Value} {below : List Frame} {meth : Method} {c : Code} {G : Gx} {d : Nat} {K N : TK} {I : TI} {R : TR} {L : TL} {sz : Nat} {φ : Int32 → TI → Prop} (C : Cx p s m args meth c (AM K sz) G RX6 cX6_run 6) (hr : meth.sig.returnType = (some .int)) {a0 : Nat}
    (h : K a0 = 17 ∧ ∀ I2 : TI, I2 = u2 I a0 0 0 → ∀ I3 : TI, I3 = u2 I2 a0 27 0 → ∀ I4 : TI, I4 = u2 I3 a0 28 0 → ∀ I5 : TI, I5 = u2 I4 a0 29 0 → ∀ I6 : TI, I6 = u2 I5 a0 30 0 → ∀ I7 : TI, I7 = u2 I6 a0 31 0 → ∀ I8 : TI, I8 = u2 I7 a0 32 0 → ∃ φ9 : TI → Prop, MtV l G yX6_begin cX6_begin 3 none d [.ref a0, .int 0, .int 0] K N I8 R L sz φ9 ∧ ∀ (I12 : TI), φ9 I12 → (WI p l e s m args below meth c G (d + 1) φ K N R L sz 6 43 [(0, .ref a0), (1, .int 0)] I12)) :
    WI p l e s m args below meth c G (d + 1) φ K N R L sz 6 0 [(0, .ref a0)] I := by
  refine wm_aload_n C rfl dX6_run_0 ?_
  refine wm_iconst C 0 dX6_run_1 ?_ (by decide)
  obtain ⟨hk1, h⟩ := h
  refine wm_putI C fqX6_83 hk1 dX6_run_2 ?_
  refine nmI (fun I2 hI2 => ?_)
  replace h := h I2 hI2
  refine wm_aload_n C rfl dX6_run_5 ?_
  refine wm_iconst C 0 dX6_run_6 ?_ (by decide)
  refine wm_putI C fqX6_147 hk1 dX6_run_7 ?_
  refine nmI (fun I3 hI3 => ?_)
  replace h := h I3 hI3
  refine wm_aload_n C rfl dX6_run_10 ?_
  refine wm_iconst C 0 dX6_run_11 ?_ (by decide)
  refine wm_putI C fqX6_112 hk1 dX6_run_12 ?_
  refine nmI (fun I4 hI4 => ?_)
  replace h := h I4 hI4
  refine wm_aload_n C rfl dX6_run_15 ?_
  refine wm_iconst C 0 dX6_run_16 ?_ (by decide)
  refine wm_putI C fqX6_150 hk1 dX6_run_17 ?_
  refine nmI (fun I5 hI5 => ?_)
  replace h := h I5 hI5
  refine wm_aload_n C rfl dX6_run_20 ?_
  refine wm_iconst C 0 dX6_run_21 ?_ (by decide)
  refine wm_putI C fqX6_130 hk1 dX6_run_22 ?_
  refine nmI (fun I6 hI6 => ?_)
  replace h := h I6 hI6
  refine wm_aload_n C rfl dX6_run_25 ?_
  refine wm_iconst C 0 dX6_run_26 ?_ (by decide)
  refine wm_putI C fqX6_160 hk1 dX6_run_27 ?_
  refine nmI (fun I7 hI7 => ?_)
  replace h := h I7 hI7
  refine wm_aload_n C rfl dX6_run_30 ?_
  refine wm_iconst C 0 dX6_run_31 ?_ (by decide)
  refine wm_putI C fqX6_166 hk1 dX6_run_32 ?_
  refine nmI (fun I8 hI8 => ?_)
  replace h := h I8 hI8
  refine wm_aload_n C rfl dX6_run_35 ?_
  refine wm_iconst C 0 dX6_run_36 ?_ (by decide)
  refine wm_iconst C 0 dX6_run_37 ?_ (by decide)
  obtain ⟨φ9, hM10, h⟩ := h
  refine wm_cVV2 C vqX6_156 hM10 hk1 ⟨Nat.le_refl _, Nat.le_refl _⟩ (Nat.le_of_ble_eq_true rfl) ⟨Nat.le_of_ble_eq_true rfl, Nat.le_of_ble_eq_true rfl⟩ dX6_run_38 (fun I12 hφ17 => ?_)
  replace h := h I12 hφ17
  refine wm_iconst C 0 dX6_run_41 ?_ (by decide)
  refine wm_istore_n C (by decide) dX6_run_42 ?_
  exact h
set_option maxRecDepth 100000 in
set_option maxHeartbeats 4000000 in
theorem vX6_run_43 {p : Program} {l : Launch} {e : Env} {s : State} {m : MethodId} {args : Array Value} {below : List Frame} {meth : Method} {c : Code} {G : Gx} {d : Nat} {K N : TK} {I : TI} {R : TR} {L : TL} {sz : Nat} {φ : Int32 → TI → Prop} (C : Cx p s m args meth c (AM K sz) G RX6 cX6_run 6) (hr : meth.sig.returnType = (some .int)) {a0 : Nat} {x1 : Int32}
    (h : ((¬ x1 = 0 → K a0 = 17 ∧ (((I a0 28) = 0 → ∃ b2, R a0 23 = some b2 ∧ K b2 = 20 ∧ vp_in 0 (N b2) ∧ ∀ I6 : TI, I6 = u2 I a0 32 (I b2 (Int32.toNatClampNeg 0)) → φ (I6 a0 32) I6) ∧ (¬ (I a0 28) = 0 → φ (I a0 28) I))) ∧ (x1 = 0 → K a0 = 17 ∧ ((¬ (I a0 28) = 0 → (((I a0 28) = 0 → ∃ b8, R a0 23 = some b8 ∧ K b8 = 20 ∧ vp_in 0 (N b8) ∧ ∀ I12 : TI, I12 = u2 I a0 32 (I b8 (Int32.toNatClampNeg 0)) → φ (I12 a0 32) I12) ∧ (¬ (I a0 28) = 0 → φ (I a0 28) I))) ∧ ((I a0 28) = 0 → ∃ b13, R a0 24 = some b13 ∧ K b13 = 20 ∧ vp_in ((I a0 27) - 1) (N b13) ∧ ∃ b17, R a0 25 = some b17 ∧ K b17 = 20 ∧ vp_in ((I a0 27) - 1) (N b17) ∧ ∃ b21, R a0 5 = some b21 ∧ K b21 = 20 ∧ vp_in (I b13 (Int32.toNatClampNeg ((I a0 27) - 1))) (N b21) ∧ ((¬ (I b17 (Int32.toNatClampNeg ((I a0 27) - 1))) = (I b21 (Int32.toNatClampNeg (I b13 (Int32.toNatClampNeg ((I a0 27) - 1))))) → ∀ I25 : TI, I25 = u2 I b17 (Int32.toNatClampNeg ((I a0 27) - 1)) ((I b17 (Int32.toNatClampNeg ((I a0 27) - 1))) + 1) → ∃ b26, R a0 6 = some b26 ∧ K b26 = 20 ∧ vp_in ((200 * (I b13 (Int32.toNatClampNeg ((I a0 27) - 1)))) + (I b17 (Int32.toNatClampNeg ((I a0 27) - 1)))) (N b26) ∧ (((-1000) ≤ (I25 b26 (Int32.toNatClampNeg ((200 * (I b13 (Int32.toNatClampNeg ((I a0 27) - 1)))) + (I b17 (Int32.toNatClampNeg ((I a0 27) - 1)))))) → ∃ φ30 : Int32 → TI → Prop, MtI l G yX6_put cX6_put 9 (some .boolean) d [.ref a0, .int ((I a0 27) - 1), .int (I25 b26 (Int32.toNatClampNeg ((200 * (I b13 (Int32.toNatClampNeg ((I a0 27) - 1)))) + (I b17 (Int32.toNatClampNeg ((I a0 27) - 1)))))), .int (I b13 (Int32.toNatClampNeg ((I a0 27) - 1))), .int (I b17 (Int32.toNatClampNeg ((I a0 27) - 1))), .int 0, .int 0, .int 0] K N I25 R L sz φ30 ∧ ∀ (r32 : Int32) (I33 : TI), φ30 r32 I33 → (WI p l e s m args below meth c G (d + 1) φ K N R L sz 6 43 [(0, .ref a0), (1, .int x1)] I33)) ∧ (¬ (-1000) ≤ (I25 b26 (Int32.toNatClampNeg ((200 * (I b13 (Int32.toNatClampNeg ((I a0 27) - 1)))) + (I b17 (Int32.toNatClampNeg ((I a0 27) - 1)))))) → (((I25 b26 (Int32.toNatClampNeg ((200 * (I b13 (Int32.toNatClampNeg ((I a0 27) - 1)))) + (I b17 (Int32.toNatClampNeg ((I a0 27) - 1)))))) < (-1060) → ∃ φ39 : Int32 → TI → Prop, MtI l G yX6_put cX6_put 9 (some .boolean) d [.ref a0, .int ((I a0 27) - 1), .int (I25 b26 (Int32.toNatClampNeg ((200 * (I b13 (Int32.toNatClampNeg ((I a0 27) - 1)))) + (I b17 (Int32.toNatClampNeg ((I a0 27) - 1)))))), .int (I b13 (Int32.toNatClampNeg ((I a0 27) - 1))), .int (I b17 (Int32.toNatClampNeg ((I a0 27) - 1))), .int 0, .int 0, .int 0] K N I25 R L sz φ39 ∧ ∀ (r41 : Int32) (I42 : TI), φ39 r41 I42 → (WI p l e s m args below meth c G (d + 1) φ K N R L sz 6 43 [(0, .ref a0), (1, .int x1)] I42)) ∧ (¬ (I25 b26 (Int32.toNatClampNeg ((200 * (I b13 (Int32.toNatClampNeg ((I a0 27) - 1)))) + (I b17 (Int32.toNatClampNeg ((I a0 27) - 1)))))) < (-1060) → ∃ φ48 : TI → Prop, MtV l G yX6_copied cX6_copied 5 none d [.ref a0, .int ((-1000) - (I25 b26 (Int32.toNatClampNeg ((200 * (I b13 (Int32.toNatClampNeg ((I a0 27) - 1)))) + (I b17 (Int32.toNatClampNeg ((I a0 27) - 1)))))))] K N I25 R L sz φ48 ∧ ∀ (I51 : TI), φ48 I51 → (WI p l e s m args below meth c G (d + 1) φ K N R L sz 6 43 [(0, .ref a0), (1, .int x1)] I51)))))) ∧ ((I b17 (Int32.toNatClampNeg ((I a0 27) - 1))) = (I b21 (Int32.toNatClampNeg (I b13 (Int32.toNatClampNeg ((I a0 27) - 1))))) → ((¬ (I a0 27) = 1 → ∃ φ57 : TI → Prop, MtV l G yX6_end cX6_end 5 none d [.ref a0] K N I R L sz φ57 ∧ ∀ (I60 : TI), φ57 I60 → (WI p l e s m args below meth c G (d + 1) φ K N R L sz 6 43 [(0, .ref a0), (1, .int 0)] I60)) ∧ ((I a0 27) = 1 → ∃ φ66 : TI → Prop, MtV l G yX6_end cX6_end 5 none d [.ref a0] K N I R L sz φ66 ∧ ∀ (I69 : TI), φ66 I69 → (WI p l e s m args below meth c G (d + 1) φ K N R L sz 6 43 [(0, .ref a0), (1, .int 1)] I69)))))))))) :
    WI p l e s m args below meth c G (d + 1) φ K N R L sz 6 43 [(0, .ref a0), (1, .int x1)] I := by
  refine wm_iload_n C rfl dX6_run_43 ?_
  refine wm_if_ne C 179 dX6_run_44 (by decide) (fun q => ?_) (fun q => ?_)
  · replace h := h.1 q
    refine wm_aload_n C rfl dX6_run_179 ?_
    obtain ⟨hk1, h⟩ := h
    refine wm_getI C fqX6_112 hk1 dX6_run_180 ?_
    refine wm_if_eq C 191 dX6_run_183 (by decide) (fun q => ?_) (fun q => ?_)
    · replace h := h.1 q
      refine wm_aload_n C rfl dX6_run_191 ?_
      refine wm_aload_n C rfl dX6_run_192 ?_
      obtain ⟨b2, hr3, h⟩ := h
      refine wm_getR C fqX6_68 hk1 hr3 dX6_run_193 ?_
      refine wm_iconst C 0 dX6_run_196 ?_ (by decide)
      obtain ⟨hk4, h⟩ := h
      obtain ⟨hi5, h⟩ := h
      refine wm_iald C hk4 hi5 dX6_run_197 ?_
      refine wm_putI C fqX6_166 hk1 dX6_run_198 ?_
      refine nmI (fun I6 hI6 => ?_)
      replace h := h I6 hI6
      refine wm_aload_n C rfl dX6_run_201 ?_
      refine wm_getI C fqX6_166 hk1 dX6_run_202 ?_
      exact wm_iret C hr rfl (Nat.le_of_ble_eq_true rfl) (Nat.le_of_ble_eq_true rfl) ⟨rfl, rfl, rfl, rfl, rfl, _, rfl, h⟩ dX6_run_205
    · replace h := h.2 q
      refine wm_aload_n C rfl dX6_run_186 ?_
      refine wm_getI C fqX6_112 hk1 dX6_run_187 ?_
      exact wm_iret C hr rfl (Nat.le_of_ble_eq_true rfl) (Nat.le_of_ble_eq_true rfl) ⟨rfl, rfl, rfl, rfl, rfl, _, rfl, h⟩ dX6_run_190
  · replace h := h.2 q
    refine wm_aload_n C rfl dX6_run_47 ?_
    obtain ⟨hk7, h⟩ := h
    refine wm_getI C fqX6_112 hk7 dX6_run_48 ?_
    refine wm_if_ne C 179 dX6_run_51 (by decide) (fun q => ?_) (fun q => ?_)
    · replace h := h.1 q
      refine wm_aload_n C rfl dX6_run_179 ?_
      refine wm_getI C fqX6_112 hk7 dX6_run_180 ?_
      refine wm_if_eq C 191 dX6_run_183 (by decide) (fun q => ?_) (fun q => ?_)
      · replace h := h.1 q
        refine wm_aload_n C rfl dX6_run_191 ?_
        refine wm_aload_n C rfl dX6_run_192 ?_
        obtain ⟨b8, hr9, h⟩ := h
        refine wm_getR C fqX6_68 hk7 hr9 dX6_run_193 ?_
        refine wm_iconst C 0 dX6_run_196 ?_ (by decide)
        obtain ⟨hk10, h⟩ := h
        obtain ⟨hi11, h⟩ := h
        refine wm_iald C hk10 hi11 dX6_run_197 ?_
        refine wm_putI C fqX6_166 hk7 dX6_run_198 ?_
        refine nmI (fun I12 hI12 => ?_)
        replace h := h I12 hI12
        refine wm_aload_n C rfl dX6_run_201 ?_
        refine wm_getI C fqX6_166 hk7 dX6_run_202 ?_
        exact wm_iret C hr rfl (Nat.le_of_ble_eq_true rfl) (Nat.le_of_ble_eq_true rfl) ⟨rfl, rfl, rfl, rfl, rfl, _, rfl, h⟩ dX6_run_205
      · replace h := h.2 q
        refine wm_aload_n C rfl dX6_run_186 ?_
        refine wm_getI C fqX6_112 hk7 dX6_run_187 ?_
        exact wm_iret C hr rfl (Nat.le_of_ble_eq_true rfl) (Nat.le_of_ble_eq_true rfl) ⟨rfl, rfl, rfl, rfl, rfl, _, rfl, h⟩ dX6_run_190
    · replace h := h.2 q
      refine wm_aload_n C rfl dX6_run_54 ?_
      refine wm_getI C fqX6_147 hk7 dX6_run_55 ?_
      refine wm_iconst C 1 dX6_run_58 ?_ (by decide)
      refine wm_isub C dX6_run_59 ?_
      refine wm_istore_n C (by decide) dX6_run_60 ?_
      refine wm_aload_n C rfl dX6_run_61 ?_
      obtain ⟨b13, hr14, h⟩ := h
      refine wm_getR C fqX6_71 hk7 hr14 dX6_run_62 ?_
      refine wm_iload_n C rfl dX6_run_65 ?_
      obtain ⟨hk15, h⟩ := h
      obtain ⟨hi16, h⟩ := h
      refine wm_iald C hk15 hi16 dX6_run_66 ?_
      refine wm_istore_n C (by decide) dX6_run_67 ?_
      refine wm_aload_n C rfl dX6_run_68 ?_
      obtain ⟨b17, hr18, h⟩ := h
      refine wm_getR C fqX6_74 hk7 hr18 dX6_run_69 ?_
      refine wm_iload_n C rfl dX6_run_72 ?_
      obtain ⟨hk19, h⟩ := h
      obtain ⟨hi20, h⟩ := h
      refine wm_iald C hk19 hi20 dX6_run_73 ?_
      refine wm_istore C (by decide) dX6_run_74 ?_
      refine wm_iload C rfl dX6_run_76 ?_
      refine wm_aload_n C rfl dX6_run_78 ?_
      obtain ⟨b21, hr22, h⟩ := h
      refine wm_getR C fqX6_13 hk7 hr22 dX6_run_79 ?_
      refine wm_iload_n C rfl dX6_run_82 ?_
      obtain ⟨hk23, h⟩ := h
      obtain ⟨hi24, h⟩ := h
      refine wm_iald C hk23 hi24 dX6_run_83 ?_
      refine wm_icmp_ne C 108 dX6_run_84 (by decide) (fun q => ?_) (fun q => ?_)
      · replace h := h.1 q
        refine wm_aload_n C rfl dX6_run_108 ?_
        refine wm_getR C fqX6_74 hk7 hr18 dX6_run_109 ?_
        refine wm_iload_n C rfl dX6_run_112 ?_
        refine wm_dup2 C rfl rfl dX6_run_113 ?_
        refine wm_iald C hk19 hi20 dX6_run_114 ?_
        refine wm_iconst C 1 dX6_run_115 ?_ (by decide)
        refine wm_iadd C dX6_run_116 ?_
        refine wm_iast C hk19 hi20 dX6_run_117 ?_
        refine nmI (fun I25 hI25 => ?_)
        replace h := h I25 hI25
        refine wm_aload_n C rfl dX6_run_118 ?_
        obtain ⟨b26, hr27, h⟩ := h
        refine wm_getR C fqX6_16 hk7 hr27 dX6_run_119 ?_
        refine wm_sipush C 200 dX6_run_122 ?_ (by decide)
        refine wm_iload_n C rfl dX6_run_125 ?_
        refine wm_imul C dX6_run_126 ?_
        refine wm_iload C rfl dX6_run_127 ?_
        refine wm_iadd C dX6_run_129 ?_
        obtain ⟨hk28, h⟩ := h
        obtain ⟨hi29, h⟩ := h
        refine wm_iald C hk28 hi29 dX6_run_130 ?_
        refine wm_istore C (by decide) dX6_run_131 ?_
        refine wm_iload C rfl dX6_run_133 ?_
        refine wm_sipush C (-1000) dX6_run_135 ?_ (by decide)
        refine wm_icmp_ge C 162 dX6_run_138 (by decide) (fun q => ?_) (fun q => ?_)
        · replace h := h.1 q
          refine wm_aload_n C rfl dX6_run_162 ?_
          refine wm_iload_n C rfl dX6_run_163 ?_
          refine wm_iload C rfl dX6_run_164 ?_
          refine wm_iload_n C rfl dX6_run_166 ?_
          refine wm_iload C rfl dX6_run_167 ?_
          refine wm_iconst C 0 dX6_run_169 ?_ (by decide)
          refine wm_iconst C 0 dX6_run_170 ?_ (by decide)
          refine wm_iconst C 0 dX6_run_171 ?_ (by decide)
          obtain ⟨φ30, hM31, h⟩ := h
          refine wm_cVI7 C vqX6_115 hM31 hk7 ⟨Nat.le_refl _, Nat.le_refl _⟩ (Nat.le_of_ble_eq_true rfl) ⟨Nat.le_of_ble_eq_true rfl, Nat.le_of_ble_eq_true rfl⟩ dX6_run_172 (fun r32 I33 hφ38 => ?_)
          replace h := h r32 I33 hφ38
          refine wm_pop C rfl dX6_run_175 ?_
          refine wm_goto C 43 dX6_run_176 ?_ (by decide)
          exact wm_pick [0, 1] rfl h
        · replace h := h.2 q
          refine wm_iload C rfl dX6_run_141 ?_
          refine wm_sipush C (-1060) dX6_run_143 ?_ (by decide)
          refine wm_icmp_lt C 162 dX6_run_146 (by decide) (fun q => ?_) (fun q => ?_)
          · replace h := h.1 q
            refine wm_aload_n C rfl dX6_run_162 ?_
            refine wm_iload_n C rfl dX6_run_163 ?_
            refine wm_iload C rfl dX6_run_164 ?_
            refine wm_iload_n C rfl dX6_run_166 ?_
            refine wm_iload C rfl dX6_run_167 ?_
            refine wm_iconst C 0 dX6_run_169 ?_ (by decide)
            refine wm_iconst C 0 dX6_run_170 ?_ (by decide)
            refine wm_iconst C 0 dX6_run_171 ?_ (by decide)
            obtain ⟨φ39, hM40, h⟩ := h
            refine wm_cVI7 C vqX6_115 hM40 hk7 ⟨Nat.le_refl _, Nat.le_refl _⟩ (Nat.le_of_ble_eq_true rfl) ⟨Nat.le_of_ble_eq_true rfl, Nat.le_of_ble_eq_true rfl⟩ dX6_run_172 (fun r41 I42 hφ47 => ?_)
            replace h := h r41 I42 hφ47
            refine wm_pop C rfl dX6_run_175 ?_
            refine wm_goto C 43 dX6_run_176 ?_ (by decide)
            exact wm_pick [0, 1] rfl h
          · replace h := h.2 q
            refine wm_aload_n C rfl dX6_run_149 ?_
            refine wm_sipush C (-1000) dX6_run_150 ?_ (by decide)
            refine wm_iload C rfl dX6_run_153 ?_
            refine wm_isub C dX6_run_155 ?_
            obtain ⟨φ48, hM49, h⟩ := h
            refine wm_cVV1 C vqX6_172 hM49 hk7 ⟨Nat.le_refl _, Nat.le_refl _⟩ (Nat.le_of_ble_eq_true rfl) ⟨Nat.le_of_ble_eq_true rfl, Nat.le_of_ble_eq_true rfl⟩ dX6_run_156 (fun I51 hφ56 => ?_)
            replace h := h I51 hφ56
            refine wm_goto C 176 dX6_run_159 ?_ (by decide)
            refine wm_goto C 43 dX6_run_176 ?_ (by decide)
            exact wm_pick [0, 1] rfl h
      · replace h := h.2 q
        refine wm_aload_n C rfl dX6_run_87 ?_
        refine wm_getI C fqX6_147 hk7 dX6_run_88 ?_
        refine wm_iconst C 1 dX6_run_91 ?_ (by decide)
        refine wm_icmp_ne C 99 dX6_run_92 (by decide) (fun q => ?_) (fun q => ?_)
        · replace h := h.1 q
          refine wm_iconst C 0 dX6_run_99 ?_ (by decide)
          refine wm_istore_n C (by decide) dX6_run_100 ?_
          refine wm_aload_n C rfl dX6_run_101 ?_
          obtain ⟨φ57, hM58, h⟩ := h
          refine wm_cVV0 C vqX6_169 hM58 hk7 ⟨Nat.le_refl _, Nat.le_refl _⟩ (Nat.le_of_ble_eq_true rfl) ⟨Nat.le_of_ble_eq_true rfl, Nat.le_of_ble_eq_true rfl⟩ dX6_run_102 (fun I60 hφ65 => ?_)
          replace h := h I60 hφ65
          refine wm_goto C 43 dX6_run_105 ?_ (by decide)
          exact wm_pick [0, 1] rfl h
        · replace h := h.2 q
          refine wm_iconst C 1 dX6_run_95 ?_ (by decide)
          refine wm_goto C 100 dX6_run_96 ?_ (by decide)
          refine wm_istore_n C (by decide) dX6_run_100 ?_
          refine wm_aload_n C rfl dX6_run_101 ?_
          obtain ⟨φ66, hM67, h⟩ := h
          refine wm_cVV0 C vqX6_169 hM67 hk7 ⟨Nat.le_refl _, Nat.le_refl _⟩ (Nat.le_of_ble_eq_true rfl) ⟨Nat.le_of_ble_eq_true rfl, Nat.le_of_ble_eq_true rfl⟩ dX6_run_102 (fun I69 hφ74 => ?_)
          replace h := h I69 hφ74
          refine wm_goto C 43 dX6_run_105 ?_ (by decide)
          exact wm_pick [0, 1] rfl h
set_option maxRecDepth 100000 in
set_option maxHeartbeats 4000000 in
theorem sX6_run {l : Launch} {G : Gx} {d : Nat} {K N : TK} {I : TI} {R : TR} {L : TL} {sz : Nat} {φ : Int32 → TI → Prop} {a0 : Nat}
    (h : ∀ (p : Program) (e : Env) (s : State) (m : MethodId) (args : Array Value) (below : List Frame) (meth : Method) (c : Code), Cx p s m args meth c (AM K sz) G RX6 cX6_run 6 → meth.sig.returnType = (some .int) → K a0 = 17 ∧ ∀ I2 : TI, I2 = u2 I a0 0 0 → ∀ I3 : TI, I3 = u2 I2 a0 27 0 → ∀ I4 : TI, I4 = u2 I3 a0 28 0 → ∀ I5 : TI, I5 = u2 I4 a0 29 0 → ∀ I6 : TI, I6 = u2 I5 a0 30 0 → ∀ I7 : TI, I7 = u2 I6 a0 31 0 → ∀ I8 : TI, I8 = u2 I7 a0 32 0 → ∃ φ9 : TI → Prop, MtV l G yX6_begin cX6_begin 3 none d [.ref a0, .int 0, .int 0] K N I8 R L sz φ9 ∧ ∀ (I12 : TI), φ9 I12 → (WI p l e s m args below meth c G (d + 1) φ K N R L sz 6 43 [(0, .ref a0), (1, .int 0)] I12)) :
    MtI l G yX6_run cX6_run 6 (some .int) (d + 1) [.ref a0] K N I R L sz φ :=
  MetM.of (own := RX6) (by decide) rfl (catR cat0) (Nat.le_of_ble_eq_true rfl) (fun p e s m args below meth c C hr hnm => vX6_run_0 C hr (h p e s m args below meth c C hr))
set_option maxRecDepth 100000 in
set_option maxHeartbeats 4000000 in
theorem vX6_at_0 {p : Program} {l : Launch} {e : Env} {s : State} {m : MethodId} {args : Array Value} {below : List Frame} {meth : Method} {c : Code} {G : Gx} {d : Nat} {K N : TK} {I : TI} {R : TR} {L : TL} {sz : Nat} {φ : Int32 → TI → Prop} (C : Cx p s m args meth c (AM K sz) G RX6 cX6_at 2) (hr : meth.sig.returnType = (some .int)) {a0 : Nat} {x1 : Int32}
    (h : ((x1 < 0 → K a0 = 17 ∧ ∀ I2 : TI, I2 = u2 I a0 0 1 → ((¬ (I2 a0 0) = 0 → φ 0 I2) ∧ ((I2 a0 0) = 0 → ∃ b3, R a0 17 = some b3 ∧ K b3 = 20 ∧ vp_in x1 (N b3) ∧ φ (I2 b3 (Int32.toNatClampNeg x1)) I2))) ∧ (¬ x1 < 0 → K a0 = 17 ∧ (((I a0 32) ≤ x1 → ∀ I8 : TI, I8 = u2 I a0 0 1 → ((¬ (I8 a0 0) = 0 → φ 0 I8) ∧ ((I8 a0 0) = 0 → ∃ b9, R a0 17 = some b9 ∧ K b9 = 20 ∧ vp_in x1 (N b9) ∧ φ (I8 b9 (Int32.toNatClampNeg x1)) I8))) ∧ (¬ (I a0 32) ≤ x1 → ∀ I13 : TI, I13 = u2 I a0 0 0 → ((¬ (I13 a0 0) = 0 → φ 0 I13) ∧ ((I13 a0 0) = 0 → ∃ b14, R a0 17 = some b14 ∧ K b14 = 20 ∧ vp_in x1 (N b14) ∧ φ (I13 b14 (Int32.toNatClampNeg x1)) I13))))))) :
    WI p l e s m args below meth c G d φ K N R L sz 2 0 [(0, .ref a0), (1, .int x1)] I := by
  refine wm_aload_n C rfl dX6_at_0 ?_
  refine wm_iload_n C rfl dX6_at_1 ?_
  refine wm_if_lt C 17 dX6_at_2 (by decide) (fun q => ?_) (fun q => ?_)
  · replace h := h.1 q
    refine wm_iconst C 1 dX6_at_17 ?_ (by decide)
    obtain ⟨hk1, h⟩ := h
    refine wm_putI C fqX6_83 hk1 dX6_at_18 ?_
    refine nmI (fun I2 hI2 => ?_)
    replace h := h I2 hI2
    refine wm_aload_n C rfl dX6_at_21 ?_
    refine wm_getI C fqX6_83 hk1 dX6_at_22 ?_
    refine wm_if_ne C 37 dX6_at_25 (by decide) (fun q => ?_) (fun q => ?_)
    · replace h := h.1 q
      refine wm_iconst C 0 dX6_at_37 ?_ (by decide)
      exact wm_iret C hr rfl (Nat.le_of_ble_eq_true rfl) (Nat.le_of_ble_eq_true rfl) ⟨rfl, rfl, rfl, rfl, rfl, _, rfl, h⟩ dX6_at_38
    · replace h := h.2 q
      refine wm_aload_n C rfl dX6_at_28 ?_
      obtain ⟨b3, hr4, h⟩ := h
      refine wm_getR C fqX6_50 hk1 hr4 dX6_at_29 ?_
      refine wm_iload_n C rfl dX6_at_32 ?_
      obtain ⟨hk5, h⟩ := h
      obtain ⟨hi6, h⟩ := h
      refine wm_iald C hk5 hi6 dX6_at_33 ?_
      refine wm_goto C 38 dX6_at_34 ?_ (by decide)
      exact wm_iret C hr rfl (Nat.le_of_ble_eq_true rfl) (Nat.le_of_ble_eq_true rfl) ⟨rfl, rfl, rfl, rfl, rfl, _, rfl, h⟩ dX6_at_38
  · replace h := h.2 q
    refine wm_iload_n C rfl dX6_at_5 ?_
    refine wm_aload_n C rfl dX6_at_6 ?_
    obtain ⟨hk7, h⟩ := h
    refine wm_getI C fqX6_166 hk7 dX6_at_7 ?_
    refine wm_icmp_ge C 17 dX6_at_10 (by decide) (fun q => ?_) (fun q => ?_)
    · replace h := h.1 q
      refine wm_iconst C 1 dX6_at_17 ?_ (by decide)
      refine wm_putI C fqX6_83 hk7 dX6_at_18 ?_
      refine nmI (fun I8 hI8 => ?_)
      replace h := h I8 hI8
      refine wm_aload_n C rfl dX6_at_21 ?_
      refine wm_getI C fqX6_83 hk7 dX6_at_22 ?_
      refine wm_if_ne C 37 dX6_at_25 (by decide) (fun q => ?_) (fun q => ?_)
      · replace h := h.1 q
        refine wm_iconst C 0 dX6_at_37 ?_ (by decide)
        exact wm_iret C hr rfl (Nat.le_of_ble_eq_true rfl) (Nat.le_of_ble_eq_true rfl) ⟨rfl, rfl, rfl, rfl, rfl, _, rfl, h⟩ dX6_at_38
      · replace h := h.2 q
        refine wm_aload_n C rfl dX6_at_28 ?_
        obtain ⟨b9, hr10, h⟩ := h
        refine wm_getR C fqX6_50 hk7 hr10 dX6_at_29 ?_
        refine wm_iload_n C rfl dX6_at_32 ?_
        obtain ⟨hk11, h⟩ := h
        obtain ⟨hi12, h⟩ := h
        refine wm_iald C hk11 hi12 dX6_at_33 ?_
        refine wm_goto C 38 dX6_at_34 ?_ (by decide)
        exact wm_iret C hr rfl (Nat.le_of_ble_eq_true rfl) (Nat.le_of_ble_eq_true rfl) ⟨rfl, rfl, rfl, rfl, rfl, _, rfl, h⟩ dX6_at_38
    · replace h := h.2 q
      refine wm_iconst C 0 dX6_at_13 ?_ (by decide)
      refine wm_goto C 18 dX6_at_14 ?_ (by decide)
      refine wm_putI C fqX6_83 hk7 dX6_at_18 ?_
      refine nmI (fun I13 hI13 => ?_)
      replace h := h I13 hI13
      refine wm_aload_n C rfl dX6_at_21 ?_
      refine wm_getI C fqX6_83 hk7 dX6_at_22 ?_
      refine wm_if_ne C 37 dX6_at_25 (by decide) (fun q => ?_) (fun q => ?_)
      · replace h := h.1 q
        refine wm_iconst C 0 dX6_at_37 ?_ (by decide)
        exact wm_iret C hr rfl (Nat.le_of_ble_eq_true rfl) (Nat.le_of_ble_eq_true rfl) ⟨rfl, rfl, rfl, rfl, rfl, _, rfl, h⟩ dX6_at_38
      · replace h := h.2 q
        refine wm_aload_n C rfl dX6_at_28 ?_
        obtain ⟨b14, hr15, h⟩ := h
        refine wm_getR C fqX6_50 hk7 hr15 dX6_at_29 ?_
        refine wm_iload_n C rfl dX6_at_32 ?_
        obtain ⟨hk16, h⟩ := h
        obtain ⟨hi17, h⟩ := h
        refine wm_iald C hk16 hi17 dX6_at_33 ?_
        refine wm_goto C 38 dX6_at_34 ?_ (by decide)
        exact wm_iret C hr rfl (Nat.le_of_ble_eq_true rfl) (Nat.le_of_ble_eq_true rfl) ⟨rfl, rfl, rfl, rfl, rfl, _, rfl, h⟩ dX6_at_38
set_option maxRecDepth 100000 in
set_option maxHeartbeats 4000000 in
theorem sX6_at {l : Launch} {G : Gx} {d : Nat} {K N : TK} {I : TI} {R : TR} {L : TL} {sz : Nat} {φ : Int32 → TI → Prop} {a0 : Nat} {x1 : Int32}
    (h : ((x1 < 0 → K a0 = 17 ∧ ∀ I2 : TI, I2 = u2 I a0 0 1 → ((¬ (I2 a0 0) = 0 → φ 0 I2) ∧ ((I2 a0 0) = 0 → ∃ b3, R a0 17 = some b3 ∧ K b3 = 20 ∧ vp_in x1 (N b3) ∧ φ (I2 b3 (Int32.toNatClampNeg x1)) I2))) ∧ (¬ x1 < 0 → K a0 = 17 ∧ (((I a0 32) ≤ x1 → ∀ I8 : TI, I8 = u2 I a0 0 1 → ((¬ (I8 a0 0) = 0 → φ 0 I8) ∧ ((I8 a0 0) = 0 → ∃ b9, R a0 17 = some b9 ∧ K b9 = 20 ∧ vp_in x1 (N b9) ∧ φ (I8 b9 (Int32.toNatClampNeg x1)) I8))) ∧ (¬ (I a0 32) ≤ x1 → ∀ I13 : TI, I13 = u2 I a0 0 0 → ((¬ (I13 a0 0) = 0 → φ 0 I13) ∧ ((I13 a0 0) = 0 → ∃ b14, R a0 17 = some b14 ∧ K b14 = 20 ∧ vp_in x1 (N b14) ∧ φ (I13 b14 (Int32.toNatClampNeg x1)) I13))))))) :
    MtI l G yX6_at cX6_at 2 (some .int) d [.ref a0, .int x1] K N I R L sz φ :=
  MetM.of (own := RX6) (by decide) rfl (catR (catI cat0)) (Nat.le_of_ble_eq_true rfl) (fun p e s m args below meth c C hr hnm => vX6_at_0 C hr h)
set_option maxRecDepth 100000 in
set_option maxHeartbeats 4000000 in
theorem vX6_place_0 {p : Program} {l : Launch} {e : Env} {s : State} {m : MethodId} {args : Array Value} {below : List Frame} {meth : Method} {c : Code} {G : Gx} {d : Nat} {K N : TK} {I : TI} {R : TR} {L : TL} {sz : Nat} {φ : Int32 → TI → Prop} (C : Cx p s m args meth c (AM K sz) G RX6 cX6_place 3) (hr : meth.sig.returnType = (some .int)) {a0 : Nat} {x1 : Int32} {x2 : Int32}
    (h : K a0 = 17 ∧ ∀ I2 : TI, I2 = u2 I a0 0 0 → ((x1 < 0 → φ (-1) I2) ∧ (¬ x1 < 0 → ((x1 < (I2 a0 32) → (((x2.toInt < 0 ∨ 4 < x2.toInt) → φ (-1) I2) ∧ (x2 = 0 → ∃ b3, R a0 18 = some b3 ∧ K b3 = 20 ∧ vp_in x1 (N b3) ∧ φ (I2 b3 (Int32.toNatClampNeg x1)) I2) ∧ (x2 = 1 → ∃ b7, R a0 19 = some b7 ∧ K b7 = 20 ∧ vp_in x1 (N b7) ∧ φ (I2 b7 (Int32.toNatClampNeg x1)) I2) ∧ (x2 = 2 → ∃ b11, R a0 20 = some b11 ∧ K b11 = 20 ∧ vp_in x1 (N b11) ∧ φ (I2 b11 (Int32.toNatClampNeg x1)) I2) ∧ (x2 = 3 → ∃ b15, R a0 21 = some b15 ∧ K b15 = 20 ∧ vp_in x1 (N b15) ∧ φ (I2 b15 (Int32.toNatClampNeg x1)) I2) ∧ (x2 = 4 → ∃ b19, R a0 22 = some b19 ∧ K b19 = 20 ∧ vp_in x1 (N b19) ∧ φ (I2 b19 (Int32.toNatClampNeg x1)) I2))) ∧ (¬ x1 < (I2 a0 32) → φ (-1) I2))))) :
    WI p l e s m args below meth c G d φ K N R L sz 3 0 [(0, .ref a0), (1, .int x1), (2, .int x2)] I := by
  refine wm_aload_n C rfl dX6_place_0 ?_
  refine wm_iconst C 0 dX6_place_1 ?_ (by decide)
  obtain ⟨hk1, h⟩ := h
  refine wm_putI C fqX6_83 hk1 dX6_place_2 ?_
  refine nmI (fun I2 hI2 => ?_)
  replace h := h I2 hI2
  refine wm_iload_n C rfl dX6_place_5 ?_
  refine wm_if_lt C 17 dX6_place_6 (by decide) (fun q => ?_) (fun q => ?_)
  · replace h := h.1 q
    refine wm_iconst C (-1) dX6_place_17 ?_ (by decide)
    exact wm_iret C hr rfl (Nat.le_of_ble_eq_true rfl) (Nat.le_of_ble_eq_true rfl) ⟨rfl, rfl, rfl, rfl, rfl, _, rfl, h⟩ dX6_place_18
  · replace h := h.2 q
    refine wm_iload_n C rfl dX6_place_9 ?_
    refine wm_aload_n C rfl dX6_place_10 ?_
    refine wm_getI C fqX6_166 hk1 dX6_place_11 ?_
    refine wm_icmp_lt C 19 dX6_place_14 (by decide) (fun q => ?_) (fun q => ?_)
    · replace h := h.1 q
      refine wm_iload_n C rfl dX6_place_19 ?_
      rcases sw_4 x2 with q | q | q | q | q | q
      · replace h := h.1 q
        refine wm_tableOut C 91 dX6_place_20 q (by decide) ?_
        refine wm_iconst C (-1) dX6_place_91 ?_ (by decide)
        exact wm_iret C hr rfl (Nat.le_of_ble_eq_true rfl) (Nat.le_of_ble_eq_true rfl) ⟨rfl, rfl, rfl, rfl, rfl, _, rfl, h⟩ dX6_place_92
      · replace h := h.2.1 q
        refine wm_tableIn C 36 56 dX6_place_20 (by rw [q]; decide) (by rw [q]; decide) (by rw [q]; rfl) (by decide) ?_
        refine wm_aload_n C rfl dX6_place_56 ?_
        obtain ⟨b3, hr4, h⟩ := h
        refine wm_getR C fqX6_53 hk1 hr4 dX6_place_57 ?_
        refine wm_iload_n C rfl dX6_place_60 ?_
        obtain ⟨hk5, h⟩ := h
        obtain ⟨hi6, h⟩ := h
        refine wm_iald C hk5 hi6 dX6_place_61 ?_
        exact wm_iret C hr rfl (Nat.le_of_ble_eq_true rfl) (Nat.le_of_ble_eq_true rfl) ⟨rfl, rfl, rfl, rfl, rfl, _, rfl, h⟩ dX6_place_62
      · replace h := h.2.2.1 q
        refine wm_tableIn C 43 63 dX6_place_20 (by rw [q]; decide) (by rw [q]; decide) (by rw [q]; rfl) (by decide) ?_
        refine wm_aload_n C rfl dX6_place_63 ?_
        obtain ⟨b7, hr8, h⟩ := h
        refine wm_getR C fqX6_56 hk1 hr8 dX6_place_64 ?_
        refine wm_iload_n C rfl dX6_place_67 ?_
        obtain ⟨hk9, h⟩ := h
        obtain ⟨hi10, h⟩ := h
        refine wm_iald C hk9 hi10 dX6_place_68 ?_
        exact wm_iret C hr rfl (Nat.le_of_ble_eq_true rfl) (Nat.le_of_ble_eq_true rfl) ⟨rfl, rfl, rfl, rfl, rfl, _, rfl, h⟩ dX6_place_69
      · replace h := h.2.2.2.1 q
        refine wm_tableIn C 50 70 dX6_place_20 (by rw [q]; decide) (by rw [q]; decide) (by rw [q]; rfl) (by decide) ?_
        refine wm_aload_n C rfl dX6_place_70 ?_
        obtain ⟨b11, hr12, h⟩ := h
        refine wm_getR C fqX6_59 hk1 hr12 dX6_place_71 ?_
        refine wm_iload_n C rfl dX6_place_74 ?_
        obtain ⟨hk13, h⟩ := h
        obtain ⟨hi14, h⟩ := h
        refine wm_iald C hk13 hi14 dX6_place_75 ?_
        exact wm_iret C hr rfl (Nat.le_of_ble_eq_true rfl) (Nat.le_of_ble_eq_true rfl) ⟨rfl, rfl, rfl, rfl, rfl, _, rfl, h⟩ dX6_place_76
      · replace h := h.2.2.2.2.1 q
        refine wm_tableIn C 57 77 dX6_place_20 (by rw [q]; decide) (by rw [q]; decide) (by rw [q]; rfl) (by decide) ?_
        refine wm_aload_n C rfl dX6_place_77 ?_
        obtain ⟨b15, hr16, h⟩ := h
        refine wm_getR C fqX6_62 hk1 hr16 dX6_place_78 ?_
        refine wm_iload_n C rfl dX6_place_81 ?_
        obtain ⟨hk17, h⟩ := h
        obtain ⟨hi18, h⟩ := h
        refine wm_iald C hk17 hi18 dX6_place_82 ?_
        exact wm_iret C hr rfl (Nat.le_of_ble_eq_true rfl) (Nat.le_of_ble_eq_true rfl) ⟨rfl, rfl, rfl, rfl, rfl, _, rfl, h⟩ dX6_place_83
      · replace h := h.2.2.2.2.2 q
        refine wm_tableIn C 64 84 dX6_place_20 (by rw [q]; decide) (by rw [q]; decide) (by rw [q]; rfl) (by decide) ?_
        refine wm_aload_n C rfl dX6_place_84 ?_
        obtain ⟨b19, hr20, h⟩ := h
        refine wm_getR C fqX6_65 hk1 hr20 dX6_place_85 ?_
        refine wm_iload_n C rfl dX6_place_88 ?_
        obtain ⟨hk21, h⟩ := h
        obtain ⟨hi22, h⟩ := h
        refine wm_iald C hk21 hi22 dX6_place_89 ?_
        exact wm_iret C hr rfl (Nat.le_of_ble_eq_true rfl) (Nat.le_of_ble_eq_true rfl) ⟨rfl, rfl, rfl, rfl, rfl, _, rfl, h⟩ dX6_place_90
    · replace h := h.2 q
      refine wm_iconst C (-1) dX6_place_17 ?_ (by decide)
      exact wm_iret C hr rfl (Nat.le_of_ble_eq_true rfl) (Nat.le_of_ble_eq_true rfl) ⟨rfl, rfl, rfl, rfl, rfl, _, rfl, h⟩ dX6_place_18
set_option maxRecDepth 100000 in
set_option maxHeartbeats 4000000 in
theorem sX6_place {l : Launch} {G : Gx} {d : Nat} {K N : TK} {I : TI} {R : TR} {L : TL} {sz : Nat} {φ : Int32 → TI → Prop} {a0 : Nat} {x1 : Int32} {x2 : Int32}
    (h : K a0 = 17 ∧ ∀ I2 : TI, I2 = u2 I a0 0 0 → ((x1 < 0 → φ (-1) I2) ∧ (¬ x1 < 0 → ((x1 < (I2 a0 32) → (((x2.toInt < 0 ∨ 4 < x2.toInt) → φ (-1) I2) ∧ (x2 = 0 → ∃ b3, R a0 18 = some b3 ∧ K b3 = 20 ∧ vp_in x1 (N b3) ∧ φ (I2 b3 (Int32.toNatClampNeg x1)) I2) ∧ (x2 = 1 → ∃ b7, R a0 19 = some b7 ∧ K b7 = 20 ∧ vp_in x1 (N b7) ∧ φ (I2 b7 (Int32.toNatClampNeg x1)) I2) ∧ (x2 = 2 → ∃ b11, R a0 20 = some b11 ∧ K b11 = 20 ∧ vp_in x1 (N b11) ∧ φ (I2 b11 (Int32.toNatClampNeg x1)) I2) ∧ (x2 = 3 → ∃ b15, R a0 21 = some b15 ∧ K b15 = 20 ∧ vp_in x1 (N b15) ∧ φ (I2 b15 (Int32.toNatClampNeg x1)) I2) ∧ (x2 = 4 → ∃ b19, R a0 22 = some b19 ∧ K b19 = 20 ∧ vp_in x1 (N b19) ∧ φ (I2 b19 (Int32.toNatClampNeg x1)) I2))) ∧ (¬ x1 < (I2 a0 32) → φ (-1) I2))))) :
    MtI l G yX6_place cX6_place 3 (some .int) d [.ref a0, .int x1, .int x2] K N I R L sz φ :=
  MetM.of (own := RX6) (by decide) rfl (catR (catI (catI cat0))) (Nat.le_of_ble_eq_true rfl) (fun p e s m args below meth c C hr hnm => vX6_place_0 C hr h)
set_option maxRecDepth 100000 in
set_option maxHeartbeats 4000000 in
theorem vX6_ring_0 {p : Program} {l : Launch} {e : Env} {s : State} {m : MethodId} {args : Array Value} {below : List Frame} {meth : Method} {c : Code} {G : Gx} {d : Nat} {K N : TK} {I : TI} {R : TR} {L : TL} {sz : Nat} {φ : Int32 → TI → Prop} (C : Cx p s m args meth c (AM K sz) G RX6 cX6_ring 2) (hr : meth.sig.returnType = (some .int)) {a0 : Nat} {x1 : Int32}
    (h : K a0 = 17 ∧ ∀ I2 : TI, I2 = u2 I a0 0 0 → ((x1 < 0 → φ (-1) I2) ∧ (¬ x1 < 0 → (((I2 a0 31) ≤ x1 → φ (-1) I2) ∧ (¬ (I2 a0 31) ≤ x1 → ∃ b3, R a0 33 = some b3 ∧ K b3 = 20 ∧ vp_in x1 (N b3) ∧ φ (I2 b3 (Int32.toNatClampNeg x1)) I2))))) :
    WI p l e s m args below meth c G d φ K N R L sz 2 0 [(0, .ref a0), (1, .int x1)] I := by
  refine wm_aload_n C rfl dX6_ring_0 ?_
  refine wm_iconst C 0 dX6_ring_1 ?_ (by decide)
  obtain ⟨hk1, h⟩ := h
  refine wm_putI C fqX6_83 hk1 dX6_ring_2 ?_
  refine nmI (fun I2 hI2 => ?_)
  replace h := h I2 hI2
  refine wm_iload_n C rfl dX6_ring_5 ?_
  refine wm_if_lt C 26 dX6_ring_6 (by decide) (fun q => ?_) (fun q => ?_)
  · replace h := h.1 q
    refine wm_iconst C (-1) dX6_ring_26 ?_ (by decide)
    exact wm_iret C hr rfl (Nat.le_of_ble_eq_true rfl) (Nat.le_of_ble_eq_true rfl) ⟨rfl, rfl, rfl, rfl, rfl, _, rfl, h⟩ dX6_ring_27
  · replace h := h.2 q
    refine wm_iload_n C rfl dX6_ring_9 ?_
    refine wm_aload_n C rfl dX6_ring_10 ?_
    refine wm_getI C fqX6_160 hk1 dX6_ring_11 ?_
    refine wm_icmp_ge C 26 dX6_ring_14 (by decide) (fun q => ?_) (fun q => ?_)
    · replace h := h.1 q
      refine wm_iconst C (-1) dX6_ring_26 ?_ (by decide)
      exact wm_iret C hr rfl (Nat.le_of_ble_eq_true rfl) (Nat.le_of_ble_eq_true rfl) ⟨rfl, rfl, rfl, rfl, rfl, _, rfl, h⟩ dX6_ring_27
    · replace h := h.2 q
      refine wm_aload_n C rfl dX6_ring_17 ?_
      obtain ⟨b3, hr4, h⟩ := h
      refine wm_getR C fqX6_80 hk1 hr4 dX6_ring_18 ?_
      refine wm_iload_n C rfl dX6_ring_21 ?_
      obtain ⟨hk5, h⟩ := h
      obtain ⟨hi6, h⟩ := h
      refine wm_iald C hk5 hi6 dX6_ring_22 ?_
      refine wm_goto C 27 dX6_ring_23 ?_ (by decide)
      exact wm_iret C hr rfl (Nat.le_of_ble_eq_true rfl) (Nat.le_of_ble_eq_true rfl) ⟨rfl, rfl, rfl, rfl, rfl, _, rfl, h⟩ dX6_ring_27
set_option maxRecDepth 100000 in
set_option maxHeartbeats 4000000 in
theorem sX6_ring {l : Launch} {G : Gx} {d : Nat} {K N : TK} {I : TI} {R : TR} {L : TL} {sz : Nat} {φ : Int32 → TI → Prop} {a0 : Nat} {x1 : Int32}
    (h : K a0 = 17 ∧ ∀ I2 : TI, I2 = u2 I a0 0 0 → ((x1 < 0 → φ (-1) I2) ∧ (¬ x1 < 0 → (((I2 a0 31) ≤ x1 → φ (-1) I2) ∧ (¬ (I2 a0 31) ≤ x1 → ∃ b3, R a0 33 = some b3 ∧ K b3 = 20 ∧ vp_in x1 (N b3) ∧ φ (I2 b3 (Int32.toNatClampNeg x1)) I2))))) :
    MtI l G yX6_ring cX6_ring 2 (some .int) d [.ref a0, .int x1] K N I R L sz φ :=
  MetM.of (own := RX6) (by decide) rfl (catR (catI cat0)) (Nat.le_of_ble_eq_true rfl) (fun p e s m args below meth c C hr hnm => vX6_ring_0 C hr h)
set_option maxRecDepth 100000 in
set_option maxHeartbeats 4000000 in
theorem vX6_count_0 {p : Program} {l : Launch} {e : Env} {s : State} {m : MethodId} {args : Array Value} {below : List Frame} {meth : Method} {c : Code} {G : Gx} {d : Nat} {K N : TK} {I : TI} {R : TR} {L : TL} {sz : Nat} {φ : Int32 → TI → Prop} (C : Cx p s m args meth c (AM K sz) G RX6 cX6_count 2) (hr : meth.sig.returnType = (some .int)) {a0 : Nat} {x1 : Int32}
    (h : K a0 = 17 ∧ ∀ I2 : TI, I2 = u2 I a0 0 0 → (((x1.toInt < 0 ∨ 4 < x1.toInt) → φ (-1) I2) ∧ (x1 = 0 → φ (I2 a0 1) I2) ∧ (x1 = 1 → φ (I2 a0 2) I2) ∧ (x1 = 2 → φ (I2 a0 3) I2) ∧ (x1 = 3 → φ (I2 a0 29) I2) ∧ (x1 = 4 → φ (I2 a0 30) I2))) :
    WI p l e s m args below meth c G d φ K N R L sz 2 0 [(0, .ref a0), (1, .int x1)] I := by
  refine wm_aload_n C rfl dX6_count_0 ?_
  refine wm_iconst C 0 dX6_count_1 ?_ (by decide)
  obtain ⟨hk1, h⟩ := h
  refine wm_putI C fqX6_83 hk1 dX6_count_2 ?_
  refine nmI (fun I2 hI2 => ?_)
  replace h := h I2 hI2
  refine wm_iload_n C rfl dX6_count_5 ?_
  rcases sw_4 x1 with q | q | q | q | q | q
  · replace h := h.1 q
    refine wm_tableOut C 65 dX6_count_6 q (by decide) ?_
    refine wm_iconst C (-1) dX6_count_65 ?_ (by decide)
    exact wm_iret C hr rfl (Nat.le_of_ble_eq_true rfl) (Nat.le_of_ble_eq_true rfl) ⟨rfl, rfl, rfl, rfl, rfl, _, rfl, h⟩ dX6_count_66
  · replace h := h.2.1 q
    refine wm_tableIn C 34 40 dX6_count_6 (by rw [q]; decide) (by rw [q]; decide) (by rw [q]; rfl) (by decide) ?_
    refine wm_aload_n C rfl dX6_count_40 ?_
    refine wm_getI C fqX6_88 hk1 dX6_count_41 ?_
    exact wm_iret C hr rfl (Nat.le_of_ble_eq_true rfl) (Nat.le_of_ble_eq_true rfl) ⟨rfl, rfl, rfl, rfl, rfl, _, rfl, h⟩ dX6_count_44
  · replace h := h.2.2.1 q
    refine wm_tableIn C 39 45 dX6_count_6 (by rw [q]; decide) (by rw [q]; decide) (by rw [q]; rfl) (by decide) ?_
    refine wm_aload_n C rfl dX6_count_45 ?_
    refine wm_getI C fqX6_102 hk1 dX6_count_46 ?_
    exact wm_iret C hr rfl (Nat.le_of_ble_eq_true rfl) (Nat.le_of_ble_eq_true rfl) ⟨rfl, rfl, rfl, rfl, rfl, _, rfl, h⟩ dX6_count_49
  · replace h := h.2.2.2.1 q
    refine wm_tableIn C 44 50 dX6_count_6 (by rw [q]; decide) (by rw [q]; decide) (by rw [q]; rfl) (by decide) ?_
    refine wm_aload_n C rfl dX6_count_50 ?_
    refine wm_getI C fqX6_109 hk1 dX6_count_51 ?_
    exact wm_iret C hr rfl (Nat.le_of_ble_eq_true rfl) (Nat.le_of_ble_eq_true rfl) ⟨rfl, rfl, rfl, rfl, rfl, _, rfl, h⟩ dX6_count_54
  · replace h := h.2.2.2.2.1 q
    refine wm_tableIn C 49 55 dX6_count_6 (by rw [q]; decide) (by rw [q]; decide) (by rw [q]; rfl) (by decide) ?_
    refine wm_aload_n C rfl dX6_count_55 ?_
    refine wm_getI C fqX6_150 hk1 dX6_count_56 ?_
    exact wm_iret C hr rfl (Nat.le_of_ble_eq_true rfl) (Nat.le_of_ble_eq_true rfl) ⟨rfl, rfl, rfl, rfl, rfl, _, rfl, h⟩ dX6_count_59
  · replace h := h.2.2.2.2.2 q
    refine wm_tableIn C 54 60 dX6_count_6 (by rw [q]; decide) (by rw [q]; decide) (by rw [q]; rfl) (by decide) ?_
    refine wm_aload_n C rfl dX6_count_60 ?_
    refine wm_getI C fqX6_130 hk1 dX6_count_61 ?_
    exact wm_iret C hr rfl (Nat.le_of_ble_eq_true rfl) (Nat.le_of_ble_eq_true rfl) ⟨rfl, rfl, rfl, rfl, rfl, _, rfl, h⟩ dX6_count_64
set_option maxRecDepth 100000 in
set_option maxHeartbeats 4000000 in
theorem sX6_count {l : Launch} {G : Gx} {d : Nat} {K N : TK} {I : TI} {R : TR} {L : TL} {sz : Nat} {φ : Int32 → TI → Prop} {a0 : Nat} {x1 : Int32}
    (h : K a0 = 17 ∧ ∀ I2 : TI, I2 = u2 I a0 0 0 → (((x1.toInt < 0 ∨ 4 < x1.toInt) → φ (-1) I2) ∧ (x1 = 0 → φ (I2 a0 1) I2) ∧ (x1 = 1 → φ (I2 a0 2) I2) ∧ (x1 = 2 → φ (I2 a0 3) I2) ∧ (x1 = 3 → φ (I2 a0 29) I2) ∧ (x1 = 4 → φ (I2 a0 30) I2))) :
    MtI l G yX6_count cX6_count 2 (some .int) d [.ref a0, .int x1] K N I R L sz φ :=
  MetM.of (own := RX6) (by decide) rfl (catR (catI cat0)) (Nat.le_of_ble_eq_true rfl) (fun p e s m args below meth c C hr hnm => vX6_count_0 C hr h)
