set_option maxRecDepth 100000 in
set_option maxHeartbeats 4000000 in
theorem vX0_init_0 {p : Program} {l : Launch} {e : Env} {s : State} {m : MethodId} {args : Array Value} {below : List Frame} {meth : Method} {c : Code} {G : Gx} {d : Nat} {K N : TK} {I : TI} {R : TR} {L : TL} {sz : Nat} {φ : TK → TK → TI → TR → Nat → Prop} (C : Cx p s m args meth c (AM K sz) G RX0 cX0_init 3) (hr : meth.sig.returnType = none) (hnm : meth.name = "<init>") {a0 : Nat} {x1 : Int32} {x2 : Int32}
    (h : ∀ K1 : TK, K1 = va_up K sz 15 → ∀ I2 : TI, I2 = va_up I sz (fun _ => 0) → ∀ R3 : TR, R3 = va_up R sz (fun _ => none) → ∀ z5 : Nat, z5 = sz + 1 → ∃ φ6 : TK → TK → TI → TR → Nat → Prop, MtAV l G yX4_init cX4_init 1 none d 1 10 [.ref sz] K1 N I2 R3 L z5 φ6 ∧ ∀ (K11 : TK) (N12 : TK) (I9 : TI) (R10 : TR) (z13 : Nat), φ6 K11 N12 I9 R10 z13 → K11 a0 = 11 ∧ ∀ R16 : TR, R16 = u2 R10 a0 2 (some sz) → ∀ K17 : TK, K17 = va_up K11 z13 15 → ∀ I18 : TI, I18 = va_up I9 z13 (fun _ => 0) → ∀ R19 : TR, R19 = va_up R16 z13 (fun _ => none) → ∀ z21 : Nat, z21 = z13 + 1 → ∃ φ22 : TK → TK → TI → TR → Nat → Prop, MtAV l G yX4_init cX4_init 1 none d 1 10 [.ref z13] K17 N12 I18 R19 L z21 φ22 ∧ ∀ (K27 : TK) (N28 : TK) (I25 : TI) (R26 : TR) (z29 : Nat), φ22 K27 N28 I25 R26 z29 → K27 a0 = 11 ∧ ∀ R32 : TR, R32 = u2 R26 a0 3 (some z13) → ∀ I33 : TI, I33 = u2 I25 a0 0 x1 → ∀ I34 : TI, I34 = u2 I33 a0 1 x2 → φ K27 N28 I34 R32 z29) :
    Wm p l e (rmD (d + 1) 4 24) s m args below meth c (MQ below (PoM G K sz (pAV K N R L sz φ)) args s 4 24 (AM K sz)) (AM K sz) G 3 0 [(0, .ref a0), (1, .int x1), (2, .int x2)] [] K N I R L sz 0 0 := by
  refine wm_aload_n C rfl dX0_init_0 ?_
  refine wm_objInit C oqX0_1 ⟨by simp only [rmD]; omega, by simp only [rmD]; omega⟩ (Nat.le_of_ble_eq_true rfl) dX0_init_1 ?_
  refine wm_aload_n C rfl dX0_init_4 ?_
  refine wm_new C nqX0_7 (Nat.le_of_ble_eq_true rfl) (Nat.le_of_ble_eq_true rfl) dX0_init_5 ?_
  refine nmKIR (fun K1 hK1 I2 hI2 R3 hR3 => ?_)
  replace h := h K1 hK1 I2 hI2 R3 hR3
  refine nmz (fun z5 hz5 => ?_)
  replace h := h z5 hz5
  refine wm_dup C rfl dX0_init_8 ?_
  obtain ⟨φ6, hM7, h⟩ := h
  refine wm_cJAV0 C jqX0_9 hM7 ⟨Nat.le_refl _, Nat.le_refl _⟩ (Nat.le_of_ble_eq_true rfl) ⟨Nat.le_of_ble_eq_true rfl, Nat.le_of_ble_eq_true rfl⟩ dX0_init_9 (fun K11 N12 I9 R10 z13 hφ14 => ?_)
  replace h := h K11 N12 I9 R10 z13 hφ14
  obtain ⟨hk15, h⟩ := h
  refine wm_putFR C fqX0_10 hnm rfl hk15 rfl rfl dX0_init_12 ?_
  refine nmR (fun R16 hR16 => ?_)
  replace h := h R16 hR16
  refine wm_aload_n C rfl dX0_init_15 ?_
  refine wm_new C nqX0_7 (Nat.le_of_ble_eq_true rfl) (Nat.le_of_ble_eq_true rfl) dX0_init_16 ?_
  refine nmKIR (fun K17 hK17 I18 hI18 R19 hR19 => ?_)
  replace h := h K17 hK17 I18 hI18 R19 hR19
  refine nmz (fun z21 hz21 => ?_)
  replace h := h z21 hz21
  refine wm_dup C rfl dX0_init_19 ?_
  obtain ⟨φ22, hM23, h⟩ := h
  refine wm_cJAV0 C jqX0_9 hM23 ⟨Nat.le_refl _, Nat.le_refl _⟩ (Nat.le_of_ble_eq_true rfl) ⟨Nat.le_of_ble_eq_true rfl, Nat.le_of_ble_eq_true rfl⟩ dX0_init_20 (fun K27 N28 I25 R26 z29 hφ30 => ?_)
  replace h := h K27 N28 I25 R26 z29 hφ30
  obtain ⟨hk31, h⟩ := h
  refine wm_putFR C fqX0_16 hnm rfl hk31 rfl rfl dX0_init_23 ?_
  refine nmR (fun R32 hR32 => ?_)
  replace h := h R32 hR32
  refine wm_aload_n C rfl dX0_init_26 ?_
  refine wm_iload_n C rfl dX0_init_27 ?_
  refine wm_putFI C fqX0_19 hnm rfl hk31 rfl rfl dX0_init_28 ?_
  refine nmI (fun I33 hI33 => ?_)
  replace h := h I33 hI33
  refine wm_aload_n C rfl dX0_init_31 ?_
  refine wm_iload_n C rfl dX0_init_32 ?_
  refine wm_putFI C fqX0_23 hnm rfl hk31 rfl rfl dX0_init_33 ?_
  refine nmI (fun I34 hI34 => ?_)
  replace h := h I34 hI34
  exact wm_vret C hr (Nat.le_of_ble_eq_true rfl) (Nat.le_of_ble_eq_true rfl) ⟨rfl, rfl, h⟩ dX0_init_36
set_option maxRecDepth 100000 in
set_option maxHeartbeats 4000000 in
theorem sX0_init {l : Launch} {G : Gx} {d : Nat} {K N : TK} {I : TI} {R : TR} {L : TL} {sz : Nat} {φ : TK → TK → TI → TR → Nat → Prop} {a0 : Nat} {x1 : Int32} {x2 : Int32}
    (h : ∀ K1 : TK, K1 = va_up K sz 15 → ∀ I2 : TI, I2 = va_up I sz (fun _ => 0) → ∀ R3 : TR, R3 = va_up R sz (fun _ => none) → ∀ z5 : Nat, z5 = sz + 1 → ∃ φ6 : TK → TK → TI → TR → Nat → Prop, MtAV l G yX4_init cX4_init 1 none d 1 10 [.ref sz] K1 N I2 R3 L z5 φ6 ∧ ∀ (K11 : TK) (N12 : TK) (I9 : TI) (R10 : TR) (z13 : Nat), φ6 K11 N12 I9 R10 z13 → K11 a0 = 11 ∧ ∀ R16 : TR, R16 = u2 R10 a0 2 (some sz) → ∀ K17 : TK, K17 = va_up K11 z13 15 → ∀ I18 : TI, I18 = va_up I9 z13 (fun _ => 0) → ∀ R19 : TR, R19 = va_up R16 z13 (fun _ => none) → ∀ z21 : Nat, z21 = z13 + 1 → ∃ φ22 : TK → TK → TI → TR → Nat → Prop, MtAV l G yX4_init cX4_init 1 none d 1 10 [.ref z13] K17 N12 I18 R19 L z21 φ22 ∧ ∀ (K27 : TK) (N28 : TK) (I25 : TI) (R26 : TR) (z29 : Nat), φ22 K27 N28 I25 R26 z29 → K27 a0 = 11 ∧ ∀ R32 : TR, R32 = u2 R26 a0 3 (some z13) → ∀ I33 : TI, I33 = u2 I25 a0 0 x1 → ∀ I34 : TI, I34 = u2 I33 a0 1 x2 → φ K27 N28 I34 R32 z29) :
    MtAV l G yX0_init cX0_init 3 none (d + 1) 4 24 [.ref a0, .int x1, .int x2] K N I R L sz φ :=
  MetM.of (own := RX0) (by decide) rfl (catR (catI (catI cat0))) (Nat.le_of_ble_eq_true rfl) (fun p e s m args below meth c C hr hnm => vX0_init_0 C hr hnm h)
set_option maxRecDepth 100000 in
set_option maxHeartbeats 4000000 in
theorem vX1_init_0 {p : Program} {l : Launch} {e : Env} {s : State} {m : MethodId} {args : Array Value} {below : List Frame} {meth : Method} {c : Code} {G : Gx} {d : Nat} {K N : TK} {I : TI} {R : TR} {L : TL} {sz : Nat} {φ : TK → TK → TI → TR → Nat → Prop} (C : Cx p s m args meth c (AM K sz) G RX1 cX1_init 1) (hr : meth.sig.returnType = none) (hnm : meth.name = "<init>") {a0 : Nat}
    (h : ∀ K1 : TK, K1 = va_up K sz 20 → ∀ N4 : TK, N4 = va_up N sz 300 → ∀ I2 : TI, I2 = va_up I sz (fun _ => 0) → ∀ z5 : Nat, z5 = sz + 1 → K1 a0 = 12 ∧ ∀ R7 : TR, R7 = u2 R a0 0 (some sz) → ∀ K8 : TK, K8 = va_up K1 z5 20 → ∀ N11 : TK, N11 = va_up N4 z5 300 → ∀ I9 : TI, I9 = va_up I2 z5 (fun _ => 0) → ∀ z12 : Nat, z12 = z5 + 1 → K8 a0 = 12 ∧ ∀ R14 : TR, R14 = u2 R7 a0 1 (some z5) → ∀ K15 : TK, K15 = va_up K8 z12 20 → ∀ N18 : TK, N18 = va_up N11 z12 300 → ∀ I16 : TI, I16 = va_up I9 z12 (fun _ => 0) → ∀ z19 : Nat, z19 = z12 + 1 → K15 a0 = 12 ∧ ∀ R21 : TR, R21 = u2 R14 a0 2 (some z12) → ∀ K22 : TK, K22 = va_up K15 z19 20 → ∀ N25 : TK, N25 = va_up N18 z19 300 → ∀ I23 : TI, I23 = va_up I16 z19 (fun _ => 0) → ∀ z26 : Nat, z26 = z19 + 1 → K22 a0 = 12 ∧ ∀ R28 : TR, R28 = u2 R21 a0 3 (some z19) → ∀ K29 : TK, K29 = va_up K22 z26 20 → ∀ N32 : TK, N32 = va_up N25 z26 300 → ∀ I30 : TI, I30 = va_up I23 z26 (fun _ => 0) → ∀ z33 : Nat, z33 = z26 + 1 → K29 a0 = 12 ∧ ∀ R35 : TR, R35 = u2 R28 a0 4 (some z26) → ∀ K36 : TK, K36 = va_up K29 z33 21 → ∀ N39 : TK, N39 = va_up N32 z33 300 → ∀ I37 : TI, I37 = va_up I30 z33 (fun _ => 0) → ∀ z40 : Nat, z40 = z33 + 1 → K36 a0 = 12 ∧ ∀ R42 : TR, R42 = u2 R35 a0 5 (some z33) → φ K36 N39 I37 R42 z40) :
    Wm p l e (rmD (d + 1) 6 1800) s m args below meth c (MQ below (PoM G K sz (pAV K N R L sz φ)) args s 6 1800 (AM K sz)) (AM K sz) G 1 0 [(0, .ref a0)] [] K N I R L sz 0 0 := by
  refine wm_aload_n C rfl dX1_init_0 ?_
  refine wm_objInit C oqX1_3 ⟨by simp only [rmD]; omega, by simp only [rmD]; omega⟩ (Nat.le_of_ble_eq_true rfl) dX1_init_1 ?_
  refine wm_aload_n C rfl dX1_init_4 ?_
  refine wm_sipush C 300 dX1_init_5 ?_ (by decide)
  refine wm_newI C 300 ac_int (by decide) (by decide) (by decide) (Nat.le_of_ble_eq_true rfl) (Nat.le_of_ble_eq_true rfl) dX1_init_8 ?_
  refine nmKNI (fun K1 hK1 N4 hN4 I2 hI2 => ?_)
  replace h := h K1 hK1 N4 hN4 I2 hI2
  refine nmz (fun z5 hz5 => ?_)
  replace h := h z5 hz5
  obtain ⟨hk6, h⟩ := h
  refine wm_putFR C fqX1_9 hnm rfl hk6 rfl rfl dX1_init_10 ?_
  refine nmR (fun R7 hR7 => ?_)
  replace h := h R7 hR7
  refine wm_aload_n C rfl dX1_init_13 ?_
  refine wm_sipush C 300 dX1_init_14 ?_ (by decide)
  refine wm_newI C 300 ac_int (by decide) (by decide) (by decide) (Nat.le_of_ble_eq_true rfl) (Nat.le_of_ble_eq_true rfl) dX1_init_17 ?_
  refine nmKNI (fun K8 hK8 N11 hN11 I9 hI9 => ?_)
  replace h := h K8 hK8 N11 hN11 I9 hI9
  refine nmz (fun z12 hz12 => ?_)
  replace h := h z12 hz12
  obtain ⟨hk13, h⟩ := h
  refine wm_putFR C fqX1_15 hnm rfl hk13 rfl rfl dX1_init_19 ?_
  refine nmR (fun R14 hR14 => ?_)
  replace h := h R14 hR14
  refine wm_aload_n C rfl dX1_init_22 ?_
  refine wm_sipush C 300 dX1_init_23 ?_ (by decide)
  refine wm_newI C 300 ac_int (by decide) (by decide) (by decide) (Nat.le_of_ble_eq_true rfl) (Nat.le_of_ble_eq_true rfl) dX1_init_26 ?_
  refine nmKNI (fun K15 hK15 N18 hN18 I16 hI16 => ?_)
  replace h := h K15 hK15 N18 hN18 I16 hI16
  refine nmz (fun z19 hz19 => ?_)
  replace h := h z19 hz19
  obtain ⟨hk20, h⟩ := h
  refine wm_putFR C fqX1_18 hnm rfl hk20 rfl rfl dX1_init_28 ?_
  refine nmR (fun R21 hR21 => ?_)
  replace h := h R21 hR21
  refine wm_aload_n C rfl dX1_init_31 ?_
  refine wm_sipush C 300 dX1_init_32 ?_ (by decide)
  refine wm_newI C 300 ac_int (by decide) (by decide) (by decide) (Nat.le_of_ble_eq_true rfl) (Nat.le_of_ble_eq_true rfl) dX1_init_35 ?_
  refine nmKNI (fun K22 hK22 N25 hN25 I23 hI23 => ?_)
  replace h := h K22 hK22 N25 hN25 I23 hI23
  refine nmz (fun z26 hz26 => ?_)
  replace h := h z26 hz26
  obtain ⟨hk27, h⟩ := h
  refine wm_putFR C fqX1_21 hnm rfl hk27 rfl rfl dX1_init_37 ?_
  refine nmR (fun R28 hR28 => ?_)
  replace h := h R28 hR28
  refine wm_aload_n C rfl dX1_init_40 ?_
  refine wm_sipush C 300 dX1_init_41 ?_ (by decide)
  refine wm_newI C 300 ac_int (by decide) (by decide) (by decide) (Nat.le_of_ble_eq_true rfl) (Nat.le_of_ble_eq_true rfl) dX1_init_44 ?_
  refine nmKNI (fun K29 hK29 N32 hN32 I30 hI30 => ?_)
  replace h := h K29 hK29 N32 hN32 I30 hI30
  refine nmz (fun z33 hz33 => ?_)
  replace h := h z33 hz33
  obtain ⟨hk34, h⟩ := h
  refine wm_putFR C fqX1_24 hnm rfl hk34 rfl rfl dX1_init_46 ?_
  refine nmR (fun R35 hR35 => ?_)
  replace h := h R35 hR35
  refine wm_aload_n C rfl dX1_init_49 ?_
  refine wm_sipush C 300 dX1_init_50 ?_ (by decide)
  refine wm_newZ C 300 ac_boolean (by decide) (by decide) (by decide) (Nat.le_of_ble_eq_true rfl) (Nat.le_of_ble_eq_true rfl) dX1_init_53 ?_
  refine nmKNI (fun K36 hK36 N39 hN39 I37 hI37 => ?_)
  replace h := h K36 hK36 N39 hN39 I37 hI37
  refine nmz (fun z40 hz40 => ?_)
  replace h := h z40 hz40
  obtain ⟨hk41, h⟩ := h
  refine wm_putFR C fqX1_27 hnm rfl hk41 rfl rfl dX1_init_55 ?_
  refine nmR (fun R42 hR42 => ?_)
  replace h := h R42 hR42
  exact wm_vret C hr (Nat.le_of_ble_eq_true rfl) (Nat.le_of_ble_eq_true rfl) ⟨rfl, rfl, h⟩ dX1_init_58
set_option maxRecDepth 100000 in
set_option maxHeartbeats 4000000 in
theorem sX1_init {l : Launch} {G : Gx} {d : Nat} {K N : TK} {I : TI} {R : TR} {L : TL} {sz : Nat} {φ : TK → TK → TI → TR → Nat → Prop} {a0 : Nat}
    (h : ∀ K1 : TK, K1 = va_up K sz 20 → ∀ N4 : TK, N4 = va_up N sz 300 → ∀ I2 : TI, I2 = va_up I sz (fun _ => 0) → ∀ z5 : Nat, z5 = sz + 1 → K1 a0 = 12 ∧ ∀ R7 : TR, R7 = u2 R a0 0 (some sz) → ∀ K8 : TK, K8 = va_up K1 z5 20 → ∀ N11 : TK, N11 = va_up N4 z5 300 → ∀ I9 : TI, I9 = va_up I2 z5 (fun _ => 0) → ∀ z12 : Nat, z12 = z5 + 1 → K8 a0 = 12 ∧ ∀ R14 : TR, R14 = u2 R7 a0 1 (some z5) → ∀ K15 : TK, K15 = va_up K8 z12 20 → ∀ N18 : TK, N18 = va_up N11 z12 300 → ∀ I16 : TI, I16 = va_up I9 z12 (fun _ => 0) → ∀ z19 : Nat, z19 = z12 + 1 → K15 a0 = 12 ∧ ∀ R21 : TR, R21 = u2 R14 a0 2 (some z12) → ∀ K22 : TK, K22 = va_up K15 z19 20 → ∀ N25 : TK, N25 = va_up N18 z19 300 → ∀ I23 : TI, I23 = va_up I16 z19 (fun _ => 0) → ∀ z26 : Nat, z26 = z19 + 1 → K22 a0 = 12 ∧ ∀ R28 : TR, R28 = u2 R21 a0 3 (some z19) → ∀ K29 : TK, K29 = va_up K22 z26 20 → ∀ N32 : TK, N32 = va_up N25 z26 300 → ∀ I30 : TI, I30 = va_up I23 z26 (fun _ => 0) → ∀ z33 : Nat, z33 = z26 + 1 → K29 a0 = 12 ∧ ∀ R35 : TR, R35 = u2 R28 a0 4 (some z26) → ∀ K36 : TK, K36 = va_up K29 z33 21 → ∀ N39 : TK, N39 = va_up N32 z33 300 → ∀ I37 : TI, I37 = va_up I30 z33 (fun _ => 0) → ∀ z40 : Nat, z40 = z33 + 1 → K36 a0 = 12 ∧ ∀ R42 : TR, R42 = u2 R35 a0 5 (some z33) → φ K36 N39 I37 R42 z40) :
    MtAV l G yX1_init cX1_init 1 none (d + 1) 6 1800 [.ref a0] K N I R L sz φ :=
  MetM.of (own := RX1) (by decide) rfl (catR cat0) (Nat.le_of_ble_eq_true rfl) (fun p e s m args below meth c C hr hnm => vX1_init_0 C hr hnm h)
set_option maxRecDepth 100000 in
set_option maxHeartbeats 4000000 in
theorem vX1_clear_0 {p : Program} {l : Launch} {e : Env} {s : State} {m : MethodId} {args : Array Value} {below : List Frame} {meth : Method} {c : Code} {G : Gx} {d : Nat} {K N : TK} {I : TI} {R : TR} {L : TL} {sz : Nat} {φ : TI → Prop} (C : Cx p s m args meth c (AM K sz) G RX1 cX1_clear 1) (hr : meth.sig.returnType = none) {a0 : Nat}
    (h : K a0 = 12 ∧ ∀ I2 : TI, I2 = u2 I a0 6 0 → φ I2) :
    WV p l e s m args below meth c G d φ K N R L sz 1 0 [(0, .ref a0)] I := by
  refine wm_aload_n C rfl dX1_clear_0 ?_
  refine wm_iconst C 0 dX1_clear_1 ?_ (by decide)
  obtain ⟨hk1, h⟩ := h
  refine wm_putI C fqX1_31 hk1 dX1_clear_2 ?_
  refine nmI (fun I2 hI2 => ?_)
  replace h := h I2 hI2
  exact wm_vret C hr (Nat.le_of_ble_eq_true rfl) (Nat.le_of_ble_eq_true rfl) ⟨rfl, rfl, rfl, rfl, rfl, rfl, h⟩ dX1_clear_5
set_option maxRecDepth 100000 in
set_option maxHeartbeats 4000000 in
theorem sX1_clear {l : Launch} {G : Gx} {d : Nat} {K N : TK} {I : TI} {R : TR} {L : TL} {sz : Nat} {φ : TI → Prop} {a0 : Nat}
    (h : K a0 = 12 ∧ ∀ I2 : TI, I2 = u2 I a0 6 0 → φ I2) :
    MtV l G yX1_clear cX1_clear 1 none d [.ref a0] K N I R L sz φ :=
  MetM.of (own := RX1) (by decide) rfl (catR cat0) (Nat.le_of_ble_eq_true rfl) (fun p e s m args below meth c C hr hnm => vX1_clear_0 C hr h)
set_option maxRecDepth 100000 in
set_option maxHeartbeats 4000000 in
theorem vX1_has_0 {p : Program} {l : Launch} {e : Env} {s : State} {m : MethodId} {args : Array Value} {below : List Frame} {meth : Method} {c : Code} {G : Gx} {d : Nat} {K N : TK} {I : TI} {R : TR} {L : TL} {sz : Nat} {φ : Int32 → TI → Prop} (C : Cx p s m args meth c (AM K sz) G RX1 cX1_has 2) (hr : meth.sig.returnType = (some .boolean)) {a0 : Nat} {x1 : Int32}
    (h : ((x1 < 0 → φ 0 I) ∧ (¬ x1 < 0 → K a0 = 12 ∧ (((I a0 6) ≤ x1 → φ 0 I) ∧ (¬ (I a0 6) ≤ x1 → φ 1 I))))) :
    WI p l e s m args below meth c G d φ K N R L sz 2 0 [(0, .ref a0), (1, .int x1)] I := by
  refine wm_iload_n C rfl dX1_has_0 ?_
  refine wm_if_lt C 16 dX1_has_1 (by decide) (fun q => ?_) (fun q => ?_)
  · replace h := h.1 q
    refine wm_iconst C 0 dX1_has_16 ?_ (by decide)
    exact wm_iret C hr rfl (Nat.le_of_ble_eq_true rfl) (Nat.le_of_ble_eq_true rfl) ⟨rfl, rfl, rfl, rfl, rfl, _, rfl, h⟩ dX1_has_17
  · replace h := h.2 q
    refine wm_iload_n C rfl dX1_has_4 ?_
    refine wm_aload_n C rfl dX1_has_5 ?_
    obtain ⟨hk1, h⟩ := h
    refine wm_getI C fqX1_31 hk1 dX1_has_6 ?_
    refine wm_icmp_ge C 16 dX1_has_9 (by decide) (fun q => ?_) (fun q => ?_)
    · replace h := h.1 q
      refine wm_iconst C 0 dX1_has_16 ?_ (by decide)
      exact wm_iret C hr rfl (Nat.le_of_ble_eq_true rfl) (Nat.le_of_ble_eq_true rfl) ⟨rfl, rfl, rfl, rfl, rfl, _, rfl, h⟩ dX1_has_17
    · replace h := h.2 q
      refine wm_iconst C 1 dX1_has_12 ?_ (by decide)
      refine wm_goto C 17 dX1_has_13 ?_ (by decide)
      exact wm_iret C hr rfl (Nat.le_of_ble_eq_true rfl) (Nat.le_of_ble_eq_true rfl) ⟨rfl, rfl, rfl, rfl, rfl, _, rfl, h⟩ dX1_has_17
set_option maxRecDepth 100000 in
set_option maxHeartbeats 4000000 in
theorem sX1_has {l : Launch} {G : Gx} {d : Nat} {K N : TK} {I : TI} {R : TR} {L : TL} {sz : Nat} {φ : Int32 → TI → Prop} {a0 : Nat} {x1 : Int32}
    (h : ((x1 < 0 → φ 0 I) ∧ (¬ x1 < 0 → K a0 = 12 ∧ (((I a0 6) ≤ x1 → φ 0 I) ∧ (¬ (I a0 6) ≤ x1 → φ 1 I))))) :
    MtI l G yX1_has cX1_has 2 (some .boolean) d [.ref a0, .int x1] K N I R L sz φ :=
  MetM.of (own := RX1) (by decide) rfl (catR (catI cat0)) (Nat.le_of_ble_eq_true rfl) (fun p e s m args below meth c C hr hnm => vX1_has_0 C hr h)
set_option maxRecDepth 100000 in
set_option maxHeartbeats 4000000 in
theorem vX1_code_0 {p : Program} {l : Launch} {e : Env} {s : State} {m : MethodId} {args : Array Value} {below : List Frame} {meth : Method} {c : Code} {G : Gx} {d : Nat} {K N : TK} {I : TI} {R : TR} {L : TL} {sz : Nat} {φ : Int32 → TI → Prop} (C : Cx p s m args meth c (AM K sz) G RX1 cX1_code 2) (hr : meth.sig.returnType = (some .int)) {a0 : Nat} {x1 : Int32}
    (h : K a0 = 12 ∧ ∃ φ2 : Int32 → TI → Prop, MtI l G yX1_has cX1_has 2 (some .boolean) d [.ref a0, .int x1] K N I R L sz φ2 ∧ ∀ (r4 : Int32) (I5 : TI), φ2 r4 I5 → ((r4 = 0 → φ (-1) I5) ∧ (¬ r4 = 0 → ∃ b11, R a0 0 = some b11 ∧ K b11 = 20 ∧ vp_in x1 (N b11) ∧ φ (I5 b11 (Int32.toNatClampNeg x1)) I5))) :
    WI p l e s m args below meth c G (d + 1) φ K N R L sz 2 0 [(0, .ref a0), (1, .int x1)] I := by
  refine wm_aload_n C rfl dX1_code_0 ?_
  refine wm_iload_n C rfl dX1_code_1 ?_
  obtain ⟨hk1, h⟩ := h
  obtain ⟨φ2, hM3, h⟩ := h
  refine wm_cVI1 C vqX1_35 hM3 hk1 ⟨Nat.le_refl _, Nat.le_refl _⟩ (Nat.le_of_ble_eq_true rfl) ⟨Nat.le_of_ble_eq_true rfl, Nat.le_of_ble_eq_true rfl⟩ dX1_code_2 (fun r4 I5 hφ10 => ?_)
  replace h := h r4 I5 hφ10
  refine wm_if_eq C 17 dX1_code_5 (by decide) (fun q => ?_) (fun q => ?_)
  · replace h := h.1 q
    refine wm_iconst C (-1) dX1_code_17 ?_ (by decide)
    exact wm_iret C hr rfl (Nat.le_of_ble_eq_true rfl) (Nat.le_of_ble_eq_true rfl) ⟨rfl, rfl, rfl, rfl, rfl, _, rfl, h⟩ dX1_code_18
  · replace h := h.2 q
    refine wm_aload_n C rfl dX1_code_8 ?_
    obtain ⟨b11, hr12, h⟩ := h
    refine wm_getR C fqX1_9 hk1 hr12 dX1_code_9 ?_
    refine wm_iload_n C rfl dX1_code_12 ?_
    obtain ⟨hk13, h⟩ := h
    obtain ⟨hi14, h⟩ := h
    refine wm_iald C hk13 hi14 dX1_code_13 ?_
    refine wm_goto C 18 dX1_code_14 ?_ (by decide)
    exact wm_iret C hr rfl (Nat.le_of_ble_eq_true rfl) (Nat.le_of_ble_eq_true rfl) ⟨rfl, rfl, rfl, rfl, rfl, _, rfl, h⟩ dX1_code_18
set_option maxRecDepth 100000 in
set_option maxHeartbeats 4000000 in
theorem sX1_code {l : Launch} {G : Gx} {d : Nat} {K N : TK} {I : TI} {R : TR} {L : TL} {sz : Nat} {φ : Int32 → TI → Prop} {a0 : Nat} {x1 : Int32}
    (h : K a0 = 12 ∧ ∃ φ2 : Int32 → TI → Prop, MtI l G yX1_has cX1_has 2 (some .boolean) d [.ref a0, .int x1] K N I R L sz φ2 ∧ ∀ (r4 : Int32) (I5 : TI), φ2 r4 I5 → ((r4 = 0 → φ (-1) I5) ∧ (¬ r4 = 0 → ∃ b11, R a0 0 = some b11 ∧ K b11 = 20 ∧ vp_in x1 (N b11) ∧ φ (I5 b11 (Int32.toNatClampNeg x1)) I5))) :
    MtI l G yX1_code cX1_code 2 (some .int) (d + 1) [.ref a0, .int x1] K N I R L sz φ :=
  MetM.of (own := RX1) (by decide) rfl (catR (catI cat0)) (Nat.le_of_ble_eq_true rfl) (fun p e s m args below meth c C hr hnm => vX1_code_0 C hr h)
set_option maxRecDepth 100000 in
set_option maxHeartbeats 4000000 in
theorem vX1_addEntry_0 {p : Program} {l : Launch} {e : Env} {s : State} {m : MethodId} {args : Array Value} {below : List Frame} {meth : Method} {c : Code} {G : Gx} {d : Nat} {K N : TK} {I : TI} {R : TR} {L : TL} {sz : Nat} {φ : Int32 → TI → Prop} (C : Cx p s m args meth c (AM K sz) G RX1 cX1_addEntry 6) (hr : meth.sig.returnType = (some .boolean)) {a0 : Nat} {x1 : Int32} {x2 : Int32} {x3 : Int32} {x4 : Int32} {x5 : Int32}
    (h : K a0 = 12 ∧ (((I a0 6) < 300 → ∃ b2, R a0 0 = some b2 ∧ K b2 = 20 ∧ vp_in (I a0 6) (N b2) ∧ ∀ I6 : TI, I6 = u2 I b2 (Int32.toNatClampNeg (I a0 6)) x1 → ∃ b7, R a0 1 = some b7 ∧ K b7 = 20 ∧ vp_in (I6 a0 6) (N b7) ∧ ∀ I11 : TI, I11 = u2 I6 b7 (Int32.toNatClampNeg (I6 a0 6)) x2 → ∃ b12, R a0 2 = some b12 ∧ K b12 = 20 ∧ vp_in (I11 a0 6) (N b12) ∧ ∀ I16 : TI, I16 = u2 I11 b12 (Int32.toNatClampNeg (I11 a0 6)) x3 → ∃ b17, R a0 3 = some b17 ∧ K b17 = 20 ∧ vp_in (I16 a0 6) (N b17) ∧ ∀ I21 : TI, I21 = u2 I16 b17 (Int32.toNatClampNeg (I16 a0 6)) 0 → ∃ b22, R a0 4 = some b22 ∧ K b22 = 20 ∧ vp_in (I21 a0 6) (N b22) ∧ ∀ I26 : TI, I26 = u2 I21 b22 (Int32.toNatClampNeg (I21 a0 6)) x4 → ∃ b27, R a0 5 = some b27 ∧ K b27 = 21 ∧ vp_in (I26 a0 6) (N b27) ∧ (x5 = 0 ∨ x5 = 1) ∧ ∀ I32 : TI, I32 = u2 I26 b27 (Int32.toNatClampNeg (I26 a0 6)) x5 → ∀ I33 : TI, I33 = u2 I32 a0 6 ((I32 a0 6) + 1) → φ 1 I33) ∧ (¬ (I a0 6) < 300 → φ 0 I))) :
    WI p l e s m args below meth c G d φ K N R L sz 6 0 [(0, .ref a0), (1, .int x1), (2, .int x2), (3, .int x3), (4, .int x4), (5, .int x5)] I := by
  refine wm_aload_n C rfl dX1_addEntry_0 ?_
  obtain ⟨hk1, h⟩ := h
  refine wm_getI C fqX1_31 hk1 dX1_addEntry_1 ?_
  refine wm_sipush C 300 dX1_addEntry_4 ?_ (by decide)
  refine wm_icmp_lt C 12 dX1_addEntry_7 (by decide) (fun q => ?_) (fun q => ?_)
  · replace h := h.1 q
    refine wm_aload_n C rfl dX1_addEntry_12 ?_
    obtain ⟨b2, hr3, h⟩ := h
    refine wm_getR C fqX1_9 hk1 hr3 dX1_addEntry_13 ?_
    refine wm_aload_n C rfl dX1_addEntry_16 ?_
    refine wm_getI C fqX1_31 hk1 dX1_addEntry_17 ?_
    refine wm_iload_n C rfl dX1_addEntry_20 ?_
    obtain ⟨hk4, h⟩ := h
    obtain ⟨hi5, h⟩ := h
    refine wm_iast C hk4 hi5 dX1_addEntry_21 ?_
    refine nmI (fun I6 hI6 => ?_)
    replace h := h I6 hI6
    refine wm_aload_n C rfl dX1_addEntry_22 ?_
    obtain ⟨b7, hr8, h⟩ := h
    refine wm_getR C fqX1_15 hk1 hr8 dX1_addEntry_23 ?_
    refine wm_aload_n C rfl dX1_addEntry_26 ?_
    refine wm_getI C fqX1_31 hk1 dX1_addEntry_27 ?_
    refine wm_iload_n C rfl dX1_addEntry_30 ?_
    obtain ⟨hk9, h⟩ := h
    obtain ⟨hi10, h⟩ := h
    refine wm_iast C hk9 hi10 dX1_addEntry_31 ?_
    refine nmI (fun I11 hI11 => ?_)
    replace h := h I11 hI11
    refine wm_aload_n C rfl dX1_addEntry_32 ?_
    obtain ⟨b12, hr13, h⟩ := h
    refine wm_getR C fqX1_18 hk1 hr13 dX1_addEntry_33 ?_
    refine wm_aload_n C rfl dX1_addEntry_36 ?_
    refine wm_getI C fqX1_31 hk1 dX1_addEntry_37 ?_
    refine wm_iload_n C rfl dX1_addEntry_40 ?_
    obtain ⟨hk14, h⟩ := h
    obtain ⟨hi15, h⟩ := h
    refine wm_iast C hk14 hi15 dX1_addEntry_41 ?_
    refine nmI (fun I16 hI16 => ?_)
    replace h := h I16 hI16
    refine wm_aload_n C rfl dX1_addEntry_42 ?_
    obtain ⟨b17, hr18, h⟩ := h
    refine wm_getR C fqX1_21 hk1 hr18 dX1_addEntry_43 ?_
    refine wm_aload_n C rfl dX1_addEntry_46 ?_
    refine wm_getI C fqX1_31 hk1 dX1_addEntry_47 ?_
    refine wm_iconst C 0 dX1_addEntry_50 ?_ (by decide)
    obtain ⟨hk19, h⟩ := h
    obtain ⟨hi20, h⟩ := h
    refine wm_iast C hk19 hi20 dX1_addEntry_51 ?_
    refine nmI (fun I21 hI21 => ?_)
    replace h := h I21 hI21
    refine wm_aload_n C rfl dX1_addEntry_52 ?_
    obtain ⟨b22, hr23, h⟩ := h
    refine wm_getR C fqX1_24 hk1 hr23 dX1_addEntry_53 ?_
    refine wm_aload_n C rfl dX1_addEntry_56 ?_
    refine wm_getI C fqX1_31 hk1 dX1_addEntry_57 ?_
    refine wm_iload C rfl dX1_addEntry_60 ?_
    obtain ⟨hk24, h⟩ := h
    obtain ⟨hi25, h⟩ := h
    refine wm_iast C hk24 hi25 dX1_addEntry_62 ?_
    refine nmI (fun I26 hI26 => ?_)
    replace h := h I26 hI26
    refine wm_aload_n C rfl dX1_addEntry_63 ?_
    obtain ⟨b27, hr28, h⟩ := h
    refine wm_getR C fqX1_27 hk1 hr28 dX1_addEntry_64 ?_
    refine wm_aload_n C rfl dX1_addEntry_67 ?_
    refine wm_getI C fqX1_31 hk1 dX1_addEntry_68 ?_
    refine wm_iload C rfl dX1_addEntry_71 ?_
    obtain ⟨hk29, h⟩ := h
    obtain ⟨hi30, h⟩ := h
    obtain ⟨hz31, h⟩ := h
    refine wm_zast C hk29 hi30 (nrz hz31) dX1_addEntry_73 ?_
    refine nmI (fun I32 hI32 => ?_)
    replace h := h I32 hI32
    refine wm_aload_n C rfl dX1_addEntry_74 ?_
    refine wm_dup C rfl dX1_addEntry_75 ?_
    refine wm_getI C fqX1_31 hk1 dX1_addEntry_76 ?_
    refine wm_iconst C 1 dX1_addEntry_79 ?_ (by decide)
    refine wm_iadd C dX1_addEntry_80 ?_
    refine wm_putI C fqX1_31 hk1 dX1_addEntry_81 ?_
    refine nmI (fun I33 hI33 => ?_)
    replace h := h I33 hI33
    refine wm_iconst C 1 dX1_addEntry_84 ?_ (by decide)
    exact wm_iret C hr rfl (Nat.le_of_ble_eq_true rfl) (Nat.le_of_ble_eq_true rfl) ⟨rfl, rfl, rfl, rfl, rfl, _, rfl, h⟩ dX1_addEntry_85
  · replace h := h.2 q
    refine wm_iconst C 0 dX1_addEntry_10 ?_ (by decide)
    exact wm_iret C hr rfl (Nat.le_of_ble_eq_true rfl) (Nat.le_of_ble_eq_true rfl) ⟨rfl, rfl, rfl, rfl, rfl, _, rfl, h⟩ dX1_addEntry_11
set_option maxRecDepth 100000 in
set_option maxHeartbeats 4000000 in
theorem sX1_addEntry {l : Launch} {G : Gx} {d : Nat} {K N : TK} {I : TI} {R : TR} {L : TL} {sz : Nat} {φ : Int32 → TI → Prop} {a0 : Nat} {x1 : Int32} {x2 : Int32} {x3 : Int32} {x4 : Int32} {x5 : Int32}
    (h : K a0 = 12 ∧ (((I a0 6) < 300 → ∃ b2, R a0 0 = some b2 ∧ K b2 = 20 ∧ vp_in (I a0 6) (N b2) ∧ ∀ I6 : TI, I6 = u2 I b2 (Int32.toNatClampNeg (I a0 6)) x1 → ∃ b7, R a0 1 = some b7 ∧ K b7 = 20 ∧ vp_in (I6 a0 6) (N b7) ∧ ∀ I11 : TI, I11 = u2 I6 b7 (Int32.toNatClampNeg (I6 a0 6)) x2 → ∃ b12, R a0 2 = some b12 ∧ K b12 = 20 ∧ vp_in (I11 a0 6) (N b12) ∧ ∀ I16 : TI, I16 = u2 I11 b12 (Int32.toNatClampNeg (I11 a0 6)) x3 → ∃ b17, R a0 3 = some b17 ∧ K b17 = 20 ∧ vp_in (I16 a0 6) (N b17) ∧ ∀ I21 : TI, I21 = u2 I16 b17 (Int32.toNatClampNeg (I16 a0 6)) 0 → ∃ b22, R a0 4 = some b22 ∧ K b22 = 20 ∧ vp_in (I21 a0 6) (N b22) ∧ ∀ I26 : TI, I26 = u2 I21 b22 (Int32.toNatClampNeg (I21 a0 6)) x4 → ∃ b27, R a0 5 = some b27 ∧ K b27 = 21 ∧ vp_in (I26 a0 6) (N b27) ∧ (x5 = 0 ∨ x5 = 1) ∧ ∀ I32 : TI, I32 = u2 I26 b27 (Int32.toNatClampNeg (I26 a0 6)) x5 → ∀ I33 : TI, I33 = u2 I32 a0 6 ((I32 a0 6) + 1) → φ 1 I33) ∧ (¬ (I a0 6) < 300 → φ 0 I))) :
    MtI l G yX1_addEntry cX1_addEntry 6 (some .boolean) d [.ref a0, .int x1, .int x2, .int x3, .int x4, .int x5] K N I R L sz φ :=
  MetM.of (own := RX1) (by decide) rfl (catR (catI (catI (catI (catI (catI cat0)))))) (Nat.le_of_ble_eq_true rfl) (fun p e s m args below meth c C hr hnm => vX1_addEntry_0 C hr h)
set_option maxRecDepth 100000 in
set_option maxHeartbeats 4000000 in
theorem vX1_addSame_0 {p : Program} {l : Launch} {e : Env} {s : State} {m : MethodId} {args : Array Value} {below : List Frame} {meth : Method} {c : Code} {G : Gx} {d : Nat} {K N : TK} {I : TI} {R : TR} {L : TL} {sz : Nat} {φ : Int32 → TI → Prop} (C : Cx p s m args meth c (AM K sz) G RX1 cX1_addSame 3) (hr : meth.sig.returnType = (some .boolean)) {a0 : Nat} {a1 : Nat} {x2 : Int32}
    (h : K a1 = 12 ∧ ∃ φ2 : Int32 → TI → Prop, MtI l G yX1_has cX1_has 2 (some .boolean) d [.ref a1, .int x2] K N I R L sz φ2 ∧ ∀ (r4 : Int32) (I5 : TI), φ2 r4 I5 → ((r4 = 0 → φ 0 I5) ∧ (¬ r4 = 0 → ∃ b11, R a1 0 = some b11 ∧ K b11 = 20 ∧ vp_in x2 (N b11) ∧ ∃ b15, R a1 3 = some b15 ∧ K b15 = 20 ∧ vp_in x2 (N b15) ∧ K a0 = 12 ∧ ∃ φ20 : Int32 → TI → Prop, MtI l G yX1_addPut cX1_addPut 6 (some .boolean) d [.ref a0, .int (I5 b11 (Int32.toNatClampNeg x2)), .int (I5 b15 (Int32.toNatClampNeg x2)), .ref a1, .int x2] K N I5 R L sz φ20 ∧ ∀ (r22 : Int32) (I23 : TI), φ20 r22 I23 → ((r22 = 0 → φ 0 I23) ∧ (¬ r22 = 0 → φ 1 I23))))) :
    WI p l e s m args below meth c G (d + 1) φ K N R L sz 3 0 [(0, .ref a0), (1, .ref a1), (2, .int x2)] I := by
  refine wm_aload_n C rfl dX1_addSame_0 ?_
  refine wm_iload_n C rfl dX1_addSame_1 ?_
  obtain ⟨hk1, h⟩ := h
  obtain ⟨φ2, hM3, h⟩ := h
  refine wm_cVI1 C vqX1_35 hM3 hk1 ⟨Nat.le_refl _, Nat.le_refl _⟩ (Nat.le_of_ble_eq_true rfl) ⟨Nat.le_of_ble_eq_true rfl, Nat.le_of_ble_eq_true rfl⟩ dX1_addSame_2 (fun r4 I5 hφ10 => ?_)
  replace h := h r4 I5 hφ10
  refine wm_if_eq C 33 dX1_addSame_5 (by decide) (fun q => ?_) (fun q => ?_)
  · replace h := h.1 q
    refine wm_iconst C 0 dX1_addSame_33 ?_ (by decide)
    exact wm_iret C hr rfl (Nat.le_of_ble_eq_true rfl) (Nat.le_of_ble_eq_true rfl) ⟨rfl, rfl, rfl, rfl, rfl, _, rfl, h⟩ dX1_addSame_34
  · replace h := h.2 q
    refine wm_aload_n C rfl dX1_addSame_8 ?_
    refine wm_aload_n C rfl dX1_addSame_9 ?_
    obtain ⟨b11, hr12, h⟩ := h
    refine wm_getR C fqX1_9 hk1 hr12 dX1_addSame_10 ?_
    refine wm_iload_n C rfl dX1_addSame_13 ?_
    obtain ⟨hk13, h⟩ := h
    obtain ⟨hi14, h⟩ := h
    refine wm_iald C hk13 hi14 dX1_addSame_14 ?_
    refine wm_aload_n C rfl dX1_addSame_15 ?_
    obtain ⟨b15, hr16, h⟩ := h
    refine wm_getR C fqX1_21 hk1 hr16 dX1_addSame_16 ?_
    refine wm_iload_n C rfl dX1_addSame_19 ?_
    obtain ⟨hk17, h⟩ := h
    obtain ⟨hi18, h⟩ := h
    refine wm_iald C hk17 hi18 dX1_addSame_20 ?_
    refine wm_aload_n C rfl dX1_addSame_21 ?_
    refine wm_iload_n C rfl dX1_addSame_22 ?_
    obtain ⟨hk19, h⟩ := h
    obtain ⟨φ20, hM21, h⟩ := h
    refine wm_cVI4 C vqX1_39 hM21 hk19 ⟨Nat.le_refl _, Nat.le_refl _⟩ (Nat.le_of_ble_eq_true rfl) ⟨Nat.le_of_ble_eq_true rfl, Nat.le_of_ble_eq_true rfl⟩ dX1_addSame_23 (fun r22 I23 hφ28 => ?_)
    replace h := h r22 I23 hφ28
    refine wm_if_eq C 33 dX1_addSame_26 (by decide) (fun q => ?_) (fun q => ?_)
    · replace h := h.1 q
      refine wm_iconst C 0 dX1_addSame_33 ?_ (by decide)
      exact wm_iret C hr rfl (Nat.le_of_ble_eq_true rfl) (Nat.le_of_ble_eq_true rfl) ⟨rfl, rfl, rfl, rfl, rfl, _, rfl, h⟩ dX1_addSame_34
    · replace h := h.2 q
      refine wm_iconst C 1 dX1_addSame_29 ?_ (by decide)
      refine wm_goto C 34 dX1_addSame_30 ?_ (by decide)
      exact wm_iret C hr rfl (Nat.le_of_ble_eq_true rfl) (Nat.le_of_ble_eq_true rfl) ⟨rfl, rfl, rfl, rfl, rfl, _, rfl, h⟩ dX1_addSame_34
set_option maxRecDepth 100000 in
set_option maxHeartbeats 4000000 in
theorem sX1_addSame {l : Launch} {G : Gx} {d : Nat} {K N : TK} {I : TI} {R : TR} {L : TL} {sz : Nat} {φ : Int32 → TI → Prop} {a0 : Nat} {a1 : Nat} {x2 : Int32}
    (h : K a1 = 12 ∧ ∃ φ2 : Int32 → TI → Prop, MtI l G yX1_has cX1_has 2 (some .boolean) d [.ref a1, .int x2] K N I R L sz φ2 ∧ ∀ (r4 : Int32) (I5 : TI), φ2 r4 I5 → ((r4 = 0 → φ 0 I5) ∧ (¬ r4 = 0 → ∃ b11, R a1 0 = some b11 ∧ K b11 = 20 ∧ vp_in x2 (N b11) ∧ ∃ b15, R a1 3 = some b15 ∧ K b15 = 20 ∧ vp_in x2 (N b15) ∧ K a0 = 12 ∧ ∃ φ20 : Int32 → TI → Prop, MtI l G yX1_addPut cX1_addPut 6 (some .boolean) d [.ref a0, .int (I5 b11 (Int32.toNatClampNeg x2)), .int (I5 b15 (Int32.toNatClampNeg x2)), .ref a1, .int x2] K N I5 R L sz φ20 ∧ ∀ (r22 : Int32) (I23 : TI), φ20 r22 I23 → ((r22 = 0 → φ 0 I23) ∧ (¬ r22 = 0 → φ 1 I23))))) :
    MtI l G yX1_addSame cX1_addSame 3 (some .boolean) (d + 1) [.ref a0, .ref a1, .int x2] K N I R L sz φ :=
  MetM.of (own := RX1) (by decide) rfl (catR (catR (catI cat0))) (Nat.le_of_ble_eq_true rfl) (fun p e s m args below meth c C hr hnm => vX1_addSame_0 C hr h)
set_option maxRecDepth 100000 in
set_option maxHeartbeats 4000000 in
theorem vX1_addPut_0 {p : Program} {l : Launch} {e : Env} {s : State} {m : MethodId} {args : Array Value} {below : List Frame} {meth : Method} {c : Code} {G : Gx} {d : Nat} {K N : TK} {I : TI} {R : TR} {L : TL} {sz : Nat} {φ : Int32 → TI → Prop} (C : Cx p s m args meth c (AM K sz) G RX1 cX1_addPut 6) (hr : meth.sig.returnType = (some .boolean)) {a0 : Nat} {x1 : Int32} {x2 : Int32} {a3 : Nat} {x4 : Int32}
    (h : K a0 = 12 ∧ K a3 = 12 ∧ ∃ φ3 : Int32 → TI → Prop, MtI l G yX1_has cX1_has 2 (some .boolean) d [.ref a3, .int x4] K N I R L sz φ3 ∧ ∀ (r5 : Int32) (I6 : TI), φ3 r5 I6 → ((r5 = 0 → φ 0 I6) ∧ (¬ r5 = 0 → ∃ b12, R a3 1 = some b12 ∧ K b12 = 20 ∧ vp_in x4 (N b12) ∧ ∃ b16, R a3 2 = some b16 ∧ K b16 = 20 ∧ vp_in x4 (N b16) ∧ ∃ b20, R a3 4 = some b20 ∧ K b20 = 20 ∧ vp_in x4 (N b20) ∧ ∃ b24, R a3 5 = some b24 ∧ K b24 = 21 ∧ vp_in x4 (N b24) ∧ ∃ φ28 : Int32 → TI → Prop, MtI l G yX1_addEntry cX1_addEntry 6 (some .boolean) d [.ref a0, .int x1, .int (I6 b12 (Int32.toNatClampNeg x4)), .int (I6 b16 (Int32.toNatClampNeg x4)), .int (I6 b20 (Int32.toNatClampNeg x4)), .int (I6 b24 (Int32.toNatClampNeg x4))] K N I6 R L sz φ28 ∧ ∀ (r30 : Int32) (I31 : TI), φ28 r30 I31 → ((¬ r30 = 0 → ∃ b37, R a0 3 = some b37 ∧ K b37 = 20 ∧ vp_in (I a0 6) (N b37) ∧ ∀ I41 : TI, I41 = u2 I31 b37 (Int32.toNatClampNeg (I a0 6)) x2 → φ 1 I41) ∧ (r30 = 0 → φ 0 I31))))) :
    WI p l e s m args below meth c G (d + 1) φ K N R L sz 6 0 [(0, .ref a0), (1, .int x1), (2, .int x2), (3, .ref a3), (4, .int x4)] I := by
  refine wm_aload_n C rfl dX1_addPut_0 ?_
  obtain ⟨hk1, h⟩ := h
  refine wm_getI C fqX1_31 hk1 dX1_addPut_1 ?_
  refine wm_istore C (by decide) dX1_addPut_4 ?_
  refine wm_aload_n C rfl dX1_addPut_6 ?_
  refine wm_iload C rfl dX1_addPut_7 ?_
  obtain ⟨hk2, h⟩ := h
  obtain ⟨φ3, hM4, h⟩ := h
  refine wm_cVI1 C vqX1_35 hM4 hk2 ⟨Nat.le_refl _, Nat.le_refl _⟩ (Nat.le_of_ble_eq_true rfl) ⟨Nat.le_of_ble_eq_true rfl, Nat.le_of_ble_eq_true rfl⟩ dX1_addPut_9 (fun r5 I6 hφ11 => ?_)
  replace h := h r5 I6 hφ11
  refine wm_if_eq C 51 dX1_addPut_12 (by decide) (fun q => ?_) (fun q => ?_)
  · replace h := h.1 q
    refine wm_iconst C 0 dX1_addPut_51 ?_ (by decide)
    exact wm_iret C hr rfl (Nat.le_of_ble_eq_true rfl) (Nat.le_of_ble_eq_true rfl) ⟨rfl, rfl, rfl, rfl, rfl, _, rfl, h⟩ dX1_addPut_52
  · replace h := h.2 q
    refine wm_aload_n C rfl dX1_addPut_15 ?_
    refine wm_iload_n C rfl dX1_addPut_16 ?_
    refine wm_aload_n C rfl dX1_addPut_17 ?_
    obtain ⟨b12, hr13, h⟩ := h
    refine wm_getR C fqX1_15 hk2 hr13 dX1_addPut_18 ?_
    refine wm_iload C rfl dX1_addPut_21 ?_
    obtain ⟨hk14, h⟩ := h
    obtain ⟨hi15, h⟩ := h
    refine wm_iald C hk14 hi15 dX1_addPut_23 ?_
    refine wm_aload_n C rfl dX1_addPut_24 ?_
    obtain ⟨b16, hr17, h⟩ := h
    refine wm_getR C fqX1_18 hk2 hr17 dX1_addPut_25 ?_
    refine wm_iload C rfl dX1_addPut_28 ?_
    obtain ⟨hk18, h⟩ := h
    obtain ⟨hi19, h⟩ := h
    refine wm_iald C hk18 hi19 dX1_addPut_30 ?_
    refine wm_aload_n C rfl dX1_addPut_31 ?_
    obtain ⟨b20, hr21, h⟩ := h
    refine wm_getR C fqX1_24 hk2 hr21 dX1_addPut_32 ?_
    refine wm_iload C rfl dX1_addPut_35 ?_
    obtain ⟨hk22, h⟩ := h
    obtain ⟨hi23, h⟩ := h
    refine wm_iald C hk22 hi23 dX1_addPut_37 ?_
    refine wm_aload_n C rfl dX1_addPut_38 ?_
    obtain ⟨b24, hr25, h⟩ := h
    refine wm_getR C fqX1_27 hk2 hr25 dX1_addPut_39 ?_
    refine wm_iload C rfl dX1_addPut_42 ?_
    obtain ⟨hk26, h⟩ := h
    obtain ⟨hi27, h⟩ := h
    refine wm_zald C hk26 hi27 dX1_addPut_44 ?_
    obtain ⟨φ28, hM29, h⟩ := h
    refine wm_cVI5 C vqX1_43 hM29 hk1 ⟨Nat.le_refl _, Nat.le_refl _⟩ (Nat.le_of_ble_eq_true rfl) ⟨Nat.le_of_ble_eq_true rfl, Nat.le_of_ble_eq_true rfl⟩ dX1_addPut_45 (fun r30 I31 hφ36 => ?_)
    replace h := h r30 I31 hφ36
    refine wm_if_ne C 53 dX1_addPut_48 (by decide) (fun q => ?_) (fun q => ?_)
    · replace h := h.1 q
      refine wm_aload_n C rfl dX1_addPut_53 ?_
      obtain ⟨b37, hr38, h⟩ := h
      refine wm_getR C fqX1_21 hk1 hr38 dX1_addPut_54 ?_
      refine wm_iload C rfl dX1_addPut_57 ?_
      refine wm_iload_n C rfl dX1_addPut_59 ?_
      obtain ⟨hk39, h⟩ := h
      obtain ⟨hi40, h⟩ := h
      refine wm_iast C hk39 hi40 dX1_addPut_60 ?_
      refine nmI (fun I41 hI41 => ?_)
      replace h := h I41 hI41
      refine wm_iconst C 1 dX1_addPut_61 ?_ (by decide)
      exact wm_iret C hr rfl (Nat.le_of_ble_eq_true rfl) (Nat.le_of_ble_eq_true rfl) ⟨rfl, rfl, rfl, rfl, rfl, _, rfl, h⟩ dX1_addPut_62
    · replace h := h.2 q
      refine wm_iconst C 0 dX1_addPut_51 ?_ (by decide)
      exact wm_iret C hr rfl (Nat.le_of_ble_eq_true rfl) (Nat.le_of_ble_eq_true rfl) ⟨rfl, rfl, rfl, rfl, rfl, _, rfl, h⟩ dX1_addPut_52
set_option maxRecDepth 100000 in
set_option maxHeartbeats 4000000 in
theorem sX1_addPut {l : Launch} {G : Gx} {d : Nat} {K N : TK} {I : TI} {R : TR} {L : TL} {sz : Nat} {φ : Int32 → TI → Prop} {a0 : Nat} {x1 : Int32} {x2 : Int32} {a3 : Nat} {x4 : Int32}
    (h : K a0 = 12 ∧ K a3 = 12 ∧ ∃ φ3 : Int32 → TI → Prop, MtI l G yX1_has cX1_has 2 (some .boolean) d [.ref a3, .int x4] K N I R L sz φ3 ∧ ∀ (r5 : Int32) (I6 : TI), φ3 r5 I6 → ((r5 = 0 → φ 0 I6) ∧ (¬ r5 = 0 → ∃ b12, R a3 1 = some b12 ∧ K b12 = 20 ∧ vp_in x4 (N b12) ∧ ∃ b16, R a3 2 = some b16 ∧ K b16 = 20 ∧ vp_in x4 (N b16) ∧ ∃ b20, R a3 4 = some b20 ∧ K b20 = 20 ∧ vp_in x4 (N b20) ∧ ∃ b24, R a3 5 = some b24 ∧ K b24 = 21 ∧ vp_in x4 (N b24) ∧ ∃ φ28 : Int32 → TI → Prop, MtI l G yX1_addEntry cX1_addEntry 6 (some .boolean) d [.ref a0, .int x1, .int (I6 b12 (Int32.toNatClampNeg x4)), .int (I6 b16 (Int32.toNatClampNeg x4)), .int (I6 b20 (Int32.toNatClampNeg x4)), .int (I6 b24 (Int32.toNatClampNeg x4))] K N I6 R L sz φ28 ∧ ∀ (r30 : Int32) (I31 : TI), φ28 r30 I31 → ((¬ r30 = 0 → ∃ b37, R a0 3 = some b37 ∧ K b37 = 20 ∧ vp_in (I a0 6) (N b37) ∧ ∀ I41 : TI, I41 = u2 I31 b37 (Int32.toNatClampNeg (I a0 6)) x2 → φ 1 I41) ∧ (r30 = 0 → φ 0 I31))))) :
    MtI l G yX1_addPut cX1_addPut 6 (some .boolean) (d + 1) [.ref a0, .int x1, .int x2, .ref a3, .int x4] K N I R L sz φ :=
  MetM.of (own := RX1) (by decide) rfl (catR (catI (catI (catR (catI cat0))))) (Nat.le_of_ble_eq_true rfl) (fun p e s m args below meth c C hr hnm => vX1_addPut_0 C hr h)
set_option maxRecDepth 100000 in
set_option maxHeartbeats 4000000 in
theorem vX1_addAll_0 {p : Program} {l : Launch} {e : Env} {s : State} {m : MethodId} {args : Array Value} {below : List Frame} {meth : Method} {c : Code} {G : Gx} {d : Nat} {K N : TK} {I : TI} {R : TR} {L : TL} {sz : Nat} {φ : Int32 → TI → Prop} (C : Cx p s m args meth c (AM K sz) G RX1 cX1_addAll 3) (hr : meth.sig.returnType = (some .boolean)) {a0 : Nat} {a1 : Nat}
    (h : (WI p l e s m args below meth c G (d + 1) φ K N R L sz 3 2 [(0, .ref a0), (1, .ref a1), (2, .int 0)] I)) :
    WI p l e s m args below meth c G (d + 1) φ K N R L sz 3 0 [(0, .ref a0), (1, .ref a1)] I := by
  refine wm_iconst C 0 dX1_addAll_0 ?_ (by decide)
  refine wm_istore_n C (by decide) dX1_addAll_1 ?_
  exact h
set_option maxRecDepth 100000 in
set_option maxHeartbeats 4000000 in
theorem vX1_addAll_2 {p : Program} {l : Launch} {e : Env} {s : State} {m : MethodId} {args : Array Value} {below : List Frame} {meth : Method} {c : Code} {G : Gx} {d : Nat} {K N : TK} {I : TI} {R : TR} {L : TL} {sz : Nat} {φ : Int32 → TI → Prop} (C : Cx p s m args meth c (AM K sz) G RX1 cX1_addAll 3) (hr : meth.sig.returnType = (some .boolean)) {a0 : Nat} {a1 : Nat} {x2 : Int32}
    (h : K a1 = 12 ∧ (((I a1 6) ≤ x2 → φ 1 I) ∧ (¬ (I a1 6) ≤ x2 → K a0 = 12 ∧ ∃ φ3 : Int32 → TI → Prop, MtI l G yX1_addSame cX1_addSame 3 (some .boolean) d [.ref a0, .ref a1, .int x2] K N I R L sz φ3 ∧ ∀ (r5 : Int32) (I6 : TI), φ3 r5 I6 → ((¬ r5 = 0 → (WI p l e s m args below meth c G (d + 1) φ K N R L sz 3 2 [(0, .ref a0), (1, .ref a1), (2, .int (x2 + 1))] I6)) ∧ (r5 = 0 → φ 0 I6))))) :
    WI p l e s m args below meth c G (d + 1) φ K N R L sz 3 2 [(0, .ref a0), (1, .ref a1), (2, .int x2)] I := by
  refine wm_iload_n C rfl dX1_addAll_2 ?_
  refine wm_aload_n C rfl dX1_addAll_3 ?_
  obtain ⟨hk1, h⟩ := h
  refine wm_getI C fqX1_31 hk1 dX1_addAll_4 ?_
  refine wm_icmp_ge C 27 dX1_addAll_7 (by decide) (fun q => ?_) (fun q => ?_)
  · replace h := h.1 q
    refine wm_iconst C 1 dX1_addAll_27 ?_ (by decide)
    exact wm_iret C hr rfl (Nat.le_of_ble_eq_true rfl) (Nat.le_of_ble_eq_true rfl) ⟨rfl, rfl, rfl, rfl, rfl, _, rfl, h⟩ dX1_addAll_28
  · replace h := h.2 q
    refine wm_aload_n C rfl dX1_addAll_10 ?_
    refine wm_aload_n C rfl dX1_addAll_11 ?_
    refine wm_iload_n C rfl dX1_addAll_12 ?_
    obtain ⟨hk2, h⟩ := h
    obtain ⟨φ3, hM4, h⟩ := h
    refine wm_cVI2 C vqX1_47 hM4 hk2 ⟨Nat.le_refl _, Nat.le_refl _⟩ (Nat.le_of_ble_eq_true rfl) ⟨Nat.le_of_ble_eq_true rfl, Nat.le_of_ble_eq_true rfl⟩ dX1_addAll_13 (fun r5 I6 hφ11 => ?_)
    replace h := h r5 I6 hφ11
    refine wm_if_ne C 21 dX1_addAll_16 (by decide) (fun q => ?_) (fun q => ?_)
    · replace h := h.1 q
      refine wm_iinc C (x2 + 1) rfl dX1_addAll_21 rfl (by decide) ?_
      refine wm_goto C 2 dX1_addAll_24 ?_ (by decide)
      exact h
    · replace h := h.2 q
      refine wm_iconst C 0 dX1_addAll_19 ?_ (by decide)
      exact wm_iret C hr rfl (Nat.le_of_ble_eq_true rfl) (Nat.le_of_ble_eq_true rfl) ⟨rfl, rfl, rfl, rfl, rfl, _, rfl, h⟩ dX1_addAll_20
set_option maxRecDepth 100000 in
set_option maxHeartbeats 4000000 in
theorem sX1_addAll {l : Launch} {G : Gx} {d : Nat} {K N : TK} {I : TI} {R : TR} {L : TL} {sz : Nat} {φ : Int32 → TI → Prop} {a0 : Nat} {a1 : Nat}
    (h : ∀ (p : Program) (e : Env) (s : State) (m : MethodId) (args : Array Value) (below : List Frame) (meth : Method) (c : Code), Cx p s m args meth c (AM K sz) G RX1 cX1_addAll 3 → meth.sig.returnType = (some .boolean) → (WI p l e s m args below meth c G (d + 1) φ K N R L sz 3 2 [(0, .ref a0), (1, .ref a1), (2, .int 0)] I)) :
    MtI l G yX1_addAll cX1_addAll 3 (some .boolean) (d + 1) [.ref a0, .ref a1] K N I R L sz φ :=
  MetM.of (own := RX1) (by decide) rfl (catR (catR cat0)) (Nat.le_of_ble_eq_true rfl) (fun p e s m args below meth c C hr hnm => vX1_addAll_0 C hr (h p e s m args below meth c C hr))
set_option maxRecDepth 100000 in
set_option maxHeartbeats 4000000 in
theorem vX2_init_0 {p : Program} {l : Launch} {e : Env} {s : State} {m : MethodId} {args : Array Value} {below : List Frame} {meth : Method} {c : Code} {G : Gx} {d : Nat} {K N : TK} {I : TI} {R : TR} {L : TL} {sz : Nat} {φ : TK → TK → TI → TR → Nat → Prop} (C : Cx p s m args meth c (AM K sz) G RX2 cX2_init 5) (hr : meth.sig.returnType = none) (hnm : meth.name = "<init>") {a0 : Nat} {x1 : Int32} {x2 : Int32} {x3 : Int32} {x4 : Int32}
    (h : ∀ K1 : TK, K1 = va_up K sz 23 → ∀ N4 : TK, N4 = va_up N sz 8 → ∀ R3 : TR, R3 = va_up R sz (fun _ => none) → ∀ z5 : Nat, z5 = sz + 1 → K1 a0 = 13 ∧ ∀ R7 : TR, R7 = u2 R3 a0 4 (some sz) → ∀ I8 : TI, I8 = u2 I a0 0 x1 → (x2 = 0 ∨ x2 = 1) ∧ ∀ I10 : TI, I10 = u2 I8 a0 1 x2 → ∀ I11 : TI, I11 = u2 I10 a0 2 x3 → (x4 = 0 ∨ x4 = 1) ∧ ∀ I13 : TI, I13 = u2 I11 a0 3 x4 → φ K1 N4 I13 R7 z5) :
    Wm p l e (rmD (d + 1) 1 8) s m args below meth c (MQ below (PoM G K sz (pAV K N R L sz φ)) args s 1 8 (AM K sz)) (AM K sz) G 5 0 [(0, .ref a0), (1, .int x1), (2, .int x2), (3, .int x3), (4, .int x4)] [] K N I R L sz 0 0 := by
  refine wm_aload_n C rfl dX2_init_0 ?_
  refine wm_objInit C oqX2_3 ⟨by simp only [rmD]; omega, by simp only [rmD]; omega⟩ (Nat.le_of_ble_eq_true rfl) dX2_init_1 ?_
  refine wm_aload_n C rfl dX2_init_4 ?_
  refine wm_bipush C 8 dX2_init_5 ?_ (by decide)
  refine wm_newQ (t := 3) C 8 (by decide) (by decide) aqX2_9 (by decide) (by decide) (by decide) (Nat.le_of_ble_eq_true rfl) (Nat.le_of_ble_eq_true rfl) dX2_init_7 ?_
  refine nmKNR (fun K1 hK1 N4 hN4 R3 hR3 => ?_)
  replace h := h K1 hK1 N4 hN4 R3 hR3
  refine nmz (fun z5 hz5 => ?_)
  replace h := h z5 hz5
  obtain ⟨hk6, h⟩ := h
  refine wm_putFR C fqX2_11 hnm rfl hk6 rfl rfl dX2_init_10 ?_
  refine nmR (fun R7 hR7 => ?_)
  replace h := h R7 hR7
  refine wm_aload_n C rfl dX2_init_13 ?_
  refine wm_iload_n C rfl dX2_init_14 ?_
  refine wm_putFI C fqX2_17 hnm rfl hk6 rfl rfl dX2_init_15 ?_
  refine nmI (fun I8 hI8 => ?_)
  replace h := h I8 hI8
  refine wm_aload_n C rfl dX2_init_18 ?_
  refine wm_iload_n C rfl dX2_init_19 ?_
  obtain ⟨hz9, h⟩ := h
  refine wm_putFI C fqX2_21 hnm rfl hk6 (nrz hz9) (fiz hz9) dX2_init_20 ?_
  refine nmI (fun I10 hI10 => ?_)
  replace h := h I10 hI10
  refine wm_aload_n C rfl dX2_init_23 ?_
  refine wm_iload_n C rfl dX2_init_24 ?_
  refine wm_putFI C fqX2_25 hnm rfl hk6 rfl rfl dX2_init_25 ?_
  refine nmI (fun I11 hI11 => ?_)
  replace h := h I11 hI11
  refine wm_aload_n C rfl dX2_init_28 ?_
  refine wm_iload C rfl dX2_init_29 ?_
  obtain ⟨hz12, h⟩ := h
  refine wm_putFI C fqX2_28 hnm rfl hk6 (nrz hz12) (fiz hz12) dX2_init_31 ?_
  refine nmI (fun I13 hI13 => ?_)
  replace h := h I13 hI13
  exact wm_vret C hr (Nat.le_of_ble_eq_true rfl) (Nat.le_of_ble_eq_true rfl) ⟨rfl, rfl, h⟩ dX2_init_34
set_option maxRecDepth 100000 in
set_option maxHeartbeats 4000000 in
theorem sX2_init {l : Launch} {G : Gx} {d : Nat} {K N : TK} {I : TI} {R : TR} {L : TL} {sz : Nat} {φ : TK → TK → TI → TR → Nat → Prop} {a0 : Nat} {x1 : Int32} {x2 : Int32} {x3 : Int32} {x4 : Int32}
    (h : ∀ K1 : TK, K1 = va_up K sz 23 → ∀ N4 : TK, N4 = va_up N sz 8 → ∀ R3 : TR, R3 = va_up R sz (fun _ => none) → ∀ z5 : Nat, z5 = sz + 1 → K1 a0 = 13 ∧ ∀ R7 : TR, R7 = u2 R3 a0 4 (some sz) → ∀ I8 : TI, I8 = u2 I a0 0 x1 → (x2 = 0 ∨ x2 = 1) ∧ ∀ I10 : TI, I10 = u2 I8 a0 1 x2 → ∀ I11 : TI, I11 = u2 I10 a0 2 x3 → (x4 = 0 ∨ x4 = 1) ∧ ∀ I13 : TI, I13 = u2 I11 a0 3 x4 → φ K1 N4 I13 R7 z5) :
    MtAV l G yX2_init cX2_init 5 none (d + 1) 1 8 [.ref a0, .int x1, .int x2, .int x3, .int x4] K N I R L sz φ :=
  MetM.of (own := RX2) (by decide) rfl (catR (catI (catI (catI (catI cat0))))) (Nat.le_of_ble_eq_true rfl) (fun p e s m args below meth c C hr hnm => vX2_init_0 C hr hnm h)
set_option maxRecDepth 100000 in
set_option maxHeartbeats 4000000 in
theorem vX2_append_0 {p : Program} {l : Launch} {e : Env} {s : State} {m : MethodId} {args : Array Value} {below : List Frame} {meth : Method} {c : Code} {G : Gx} {d : Nat} {K N : TK} {I : TI} {R0 R : TR} {L : TL} {sz : Nat} {φ : TI → TR → Prop} (C : Cx p s m args meth c (AM K sz) G RX2 cX2_append 2) (hr : meth.sig.returnType = none) {a0 : Nat} {a1 : Nat}
    (h : K a0 = 13 ∧ ∃ b2, R a0 4 = some b2 ∧ K b2 = 23 ∧ (((nI (N b2)) ≤ (I a0 5) → φ I R) ∧ (¬ (nI (N b2)) ≤ (I a0 5) → vp_in (I a0 5) (N b2) ∧ K a1 = 11 ∧ ∀ R7 : TR, R7 = u2 R b2 (Int32.toNatClampNeg (I a0 5)) (some a1) → ∀ I8 : TI, I8 = u2 I a0 5 ((I a0 5) + 1) → φ I8 R7))) :
    WW p l e s m args below meth c G d φ K N R0 L sz 2 0 [(0, .ref a0), (1, .ref a1)] I R := by
  refine wm_aload_n C rfl dX2_append_0 ?_
  obtain ⟨hk1, h⟩ := h
  refine wm_getI C fqX2_31 hk1 dX2_append_1 ?_
  refine wm_aload_n C rfl dX2_append_4 ?_
  obtain ⟨b2, hr3, h⟩ := h
  refine wm_getR C fqX2_11 hk1 hr3 dX2_append_5 ?_
  obtain ⟨hk4, h⟩ := h
  refine wm_alen C (Or.inr (Or.inr (Or.inl hk4))) dX2_append_8 ?_
  refine wm_icmp_ge C 32 dX2_append_9 (by decide) (fun q => ?_) (fun q => ?_)
  · replace h := h.1 q
    exact wm_vret C hr (Nat.le_of_ble_eq_true rfl) (Nat.le_of_ble_eq_true rfl) ⟨rfl, rfl, rfl, rfl, rfl, h⟩ dX2_append_32
  · replace h := h.2 q
    refine wm_aload_n C rfl dX2_append_12 ?_
    refine wm_getR C fqX2_11 hk1 hr3 dX2_append_13 ?_
    refine wm_aload_n C rfl dX2_append_16 ?_
    refine wm_getI C fqX2_31 hk1 dX2_append_17 ?_
    refine wm_aload_n C rfl dX2_append_20 ?_
    obtain ⟨hi5, h⟩ := h
    obtain ⟨hk6, h⟩ := h
    refine wm_aast (t := 3) C (by decide) (by decide) hk4 hi5 hk6 dX2_append_21 ?_
    refine nmR (fun R7 hR7 => ?_)
    replace h := h R7 hR7
    refine wm_aload_n C rfl dX2_append_22 ?_
    refine wm_dup C rfl dX2_append_23 ?_
    refine wm_getI C fqX2_31 hk1 dX2_append_24 ?_
    refine wm_iconst C 1 dX2_append_27 ?_ (by decide)
    refine wm_iadd C dX2_append_28 ?_
    refine wm_putI C fqX2_31 hk1 dX2_append_29 ?_
    refine nmI (fun I8 hI8 => ?_)
    replace h := h I8 hI8
    exact wm_vret C hr (Nat.le_of_ble_eq_true rfl) (Nat.le_of_ble_eq_true rfl) ⟨rfl, rfl, rfl, rfl, rfl, h⟩ dX2_append_32
set_option maxRecDepth 100000 in
set_option maxHeartbeats 4000000 in
theorem sX2_append {l : Launch} {G : Gx} {d : Nat} {K N : TK} {I : TI} {R : TR} {L : TL} {sz : Nat} {φ : TI → TR → Prop} {a0 : Nat} {a1 : Nat}
    (h : K a0 = 13 ∧ ∃ b2, R a0 4 = some b2 ∧ K b2 = 23 ∧ (((nI (N b2)) ≤ (I a0 5) → φ I R) ∧ (¬ (nI (N b2)) ≤ (I a0 5) → vp_in (I a0 5) (N b2) ∧ K a1 = 11 ∧ ∀ R7 : TR, R7 = u2 R b2 (Int32.toNatClampNeg (I a0 5)) (some a1) → ∀ I8 : TI, I8 = u2 I a0 5 ((I a0 5) + 1) → φ I8 R7))) :
    MtW l G yX2_append cX2_append 2 none d [.ref a0, .ref a1] K N I R L sz φ :=
  MetM.of (own := RX2) (by decide) rfl (catR (catR cat0)) (Nat.le_of_ble_eq_true rfl) (fun p e s m args below meth c C hr hnm => vX2_append_0 C hr h)
set_option maxRecDepth 100000 in
set_option maxHeartbeats 4000000 in
theorem vX2_get_0 {p : Program} {l : Launch} {e : Env} {s : State} {m : MethodId} {args : Array Value} {below : List Frame} {meth : Method} {c : Code} {G : Gx} {d : Nat} {K N : TK} {I : TI} {R : TR} {L : TL} {sz : Nat} {φ : Option Nat → TI → Prop} (C : Cx p s m args meth c (AM K sz) G RX2 cX2_get 2) (hr : meth.sig.returnType = (some (.object "CopyReplace$Phrase"))) {a0 : Nat} {x1 : Int32}
    (h : ((x1 < 0 → φ none I) ∧ (¬ x1 < 0 → K a0 = 13 ∧ (((I a0 5) ≤ x1 → φ none I) ∧ (¬ (I a0 5) ≤ x1 → ∃ b2, R a0 4 = some b2 ∧ K b2 = 23 ∧ vp_in x1 (N b2) ∧ ∃ b6, R b2 (Int32.toNatClampNeg x1) = some b6 ∧ φ (some b6) I))))) :
    WR p l e s m args below meth c G d φ K N R L sz 2 0 [(0, .ref a0), (1, .int x1)] I := by
  refine wm_iload_n C rfl dX2_get_0 ?_
  refine wm_if_lt C 21 dX2_get_1 (by decide) (fun q => ?_) (fun q => ?_)
  · replace h := h.1 q
    refine wm_null C dX2_get_21 ?_
    exact wm_aret (r := none) C hr (Nat.le_of_ble_eq_true rfl) (Nat.le_of_ble_eq_true rfl) ⟨rfl, rfl, rfl, rfl, rfl, _, rfl, h⟩ dX2_get_22
  · replace h := h.2 q
    refine wm_iload_n C rfl dX2_get_4 ?_
    refine wm_aload_n C rfl dX2_get_5 ?_
    obtain ⟨hk1, h⟩ := h
    refine wm_getI C fqX2_31 hk1 dX2_get_6 ?_
    refine wm_icmp_ge C 21 dX2_get_9 (by decide) (fun q => ?_) (fun q => ?_)
    · replace h := h.1 q
      refine wm_null C dX2_get_21 ?_
      exact wm_aret (r := none) C hr (Nat.le_of_ble_eq_true rfl) (Nat.le_of_ble_eq_true rfl) ⟨rfl, rfl, rfl, rfl, rfl, _, rfl, h⟩ dX2_get_22
    · replace h := h.2 q
      refine wm_aload_n C rfl dX2_get_12 ?_
      obtain ⟨b2, hr3, h⟩ := h
      refine wm_getR C fqX2_11 hk1 hr3 dX2_get_13 ?_
      refine wm_iload_n C rfl dX2_get_16 ?_
      obtain ⟨hk4, h⟩ := h
      obtain ⟨hi5, h⟩ := h
      obtain ⟨b6, hr7, h⟩ := h
      refine wm_aald (t := 3) C (by decide) (by decide) hk4 hi5 hr7 dX2_get_17 ?_
      refine wm_goto C 22 dX2_get_18 ?_ (by decide)
      exact wm_aret (r := (some b6)) C hr (Nat.le_of_ble_eq_true rfl) (Nat.le_of_ble_eq_true rfl) ⟨rfl, rfl, rfl, rfl, rfl, _, rfl, h⟩ dX2_get_22
set_option maxRecDepth 100000 in
set_option maxHeartbeats 4000000 in
theorem sX2_get {l : Launch} {G : Gx} {d : Nat} {K N : TK} {I : TI} {R : TR} {L : TL} {sz : Nat} {φ : Option Nat → TI → Prop} {a0 : Nat} {x1 : Int32}
    (h : ((x1 < 0 → φ none I) ∧ (¬ x1 < 0 → K a0 = 13 ∧ (((I a0 5) ≤ x1 → φ none I) ∧ (¬ (I a0 5) ≤ x1 → ∃ b2, R a0 4 = some b2 ∧ K b2 = 23 ∧ vp_in x1 (N b2) ∧ ∃ b6, R b2 (Int32.toNatClampNeg x1) = some b6 ∧ φ (some b6) I))))) :
    MtR l G yX2_get cX2_get 2 (some (.object "CopyReplace$Phrase")) d [.ref a0, .int x1] K N I R L sz φ :=
  MetM.of (own := RX2) (by decide) rfl (catR (catI cat0)) (Nat.le_of_ble_eq_true rfl) (fun p e s m args below meth c C hr hnm => vX2_get_0 C hr h)
set_option maxRecDepth 100000 in
set_option maxHeartbeats 4000000 in
theorem vX3_init_0 {p : Program} {l : Launch} {e : Env} {s : State} {m : MethodId} {args : Array Value} {below : List Frame} {meth : Method} {c : Code} {G : Gx} {d : Nat} {K N : TK} {I : TI} {R : TR} {L : TL} {sz : Nat} {φ : TK → TK → TI → TR → Nat → Prop} (C : Cx p s m args meth c (AM K sz) G RX3 cX3_init 3) (hr : meth.sig.returnType = none) (hnm : meth.name = "<init>") {a0 : Nat} {x1 : Int32} {x2 : Int32}
    (h : ∀ K1 : TK, K1 = va_up K sz 12 → ∀ I2 : TI, I2 = va_up I sz (fun _ => 0) → ∀ R3 : TR, R3 = va_up R sz (fun _ => none) → ∀ z5 : Nat, z5 = sz + 1 → ∃ φ6 : TK → TK → TI → TR → Nat → Prop, MtAV l G yX1_init cX1_init 1 none d 6 1800 [.ref sz] K1 N I2 R3 L z5 φ6 ∧ ∀ (K11 : TK) (N12 : TK) (I9 : TI) (R10 : TR) (z13 : Nat), φ6 K11 N12 I9 R10 z13 → K11 a0 = 14 ∧ ∀ R16 : TR, R16 = u2 R10 a0 2 (some sz) → ∀ K17 : TK, K17 = va_up K11 z13 20 → ∀ N20 : TK, N20 = va_up N12 z13 200 → ∀ I18 : TI, I18 = va_up I9 z13 (fun _ => 0) → ∀ z21 : Nat, z21 = z13 + 1 → K17 a0 = 14 ∧ ∀ R23 : TR, R23 = u2 R16 a0 3 (some z13) → ∀ I24 : TI, I24 = u2 I18 a0 0 x1 → ∀ I25 : TI, I25 = u2 I24 a0 1 x2 → φ K17 N20 I25 R23 z21) :
    Wm p l e (rmD (d + 1) 8 2007) s m args below meth c (MQ below (PoM G K sz (pAV K N R L sz φ)) args s 8 2007 (AM K sz)) (AM K sz) G 3 0 [(0, .ref a0), (1, .int x1), (2, .int x2)] [] K N I R L sz 0 0 := by
  refine wm_aload_n C rfl dX3_init_0 ?_
  refine wm_objInit C oqX3_3 ⟨by simp only [rmD]; omega, by simp only [rmD]; omega⟩ (Nat.le_of_ble_eq_true rfl) dX3_init_1 ?_
  refine wm_aload_n C rfl dX3_init_4 ?_
  refine wm_new C nqX3_9 (Nat.le_of_ble_eq_true rfl) (Nat.le_of_ble_eq_true rfl) dX3_init_5 ?_
  refine nmKIR (fun K1 hK1 I2 hI2 R3 hR3 => ?_)
  replace h := h K1 hK1 I2 hI2 R3 hR3
  refine nmz (fun z5 hz5 => ?_)
  replace h := h z5 hz5
  refine wm_dup C rfl dX3_init_8 ?_
  obtain ⟨φ6, hM7, h⟩ := h
  refine wm_cJAV0 C jqX3_11 hM7 ⟨Nat.le_refl _, Nat.le_refl _⟩ (Nat.le_of_ble_eq_true rfl) ⟨Nat.le_of_ble_eq_true rfl, Nat.le_of_ble_eq_true rfl⟩ dX3_init_9 (fun K11 N12 I9 R10 z13 hφ14 => ?_)
  replace h := h K11 N12 I9 R10 z13 hφ14
  obtain ⟨hk15, h⟩ := h
  refine wm_putFR C fqX3_12 hnm rfl hk15 rfl rfl dX3_init_12 ?_
  refine nmR (fun R16 hR16 => ?_)
  replace h := h R16 hR16
  refine wm_aload_n C rfl dX3_init_15 ?_
  refine wm_sipush C 200 dX3_init_16 ?_ (by decide)
  refine wm_newI C 200 ac_int (by decide) (by decide) (by decide) (Nat.le_of_ble_eq_true rfl) (Nat.le_of_ble_eq_true rfl) dX3_init_19 ?_
  refine nmKNI (fun K17 hK17 N20 hN20 I18 hI18 => ?_)
  replace h := h K17 hK17 N20 hN20 I18 hI18
  refine nmz (fun z21 hz21 => ?_)
  replace h := h z21 hz21
  obtain ⟨hk22, h⟩ := h
  refine wm_putFR C fqX3_18 hnm rfl hk22 rfl rfl dX3_init_21 ?_
  refine nmR (fun R23 hR23 => ?_)
  replace h := h R23 hR23
  refine wm_aload_n C rfl dX3_init_24 ?_
  refine wm_iload_n C rfl dX3_init_25 ?_
  refine wm_putFI C fqX3_22 hnm rfl hk22 rfl rfl dX3_init_26 ?_
  refine nmI (fun I24 hI24 => ?_)
  replace h := h I24 hI24
  refine wm_aload_n C rfl dX3_init_29 ?_
  refine wm_iload_n C rfl dX3_init_30 ?_
  refine wm_putFI C fqX3_26 hnm rfl hk22 rfl rfl dX3_init_31 ?_
  refine nmI (fun I25 hI25 => ?_)
  replace h := h I25 hI25
  exact wm_vret C hr (Nat.le_of_ble_eq_true rfl) (Nat.le_of_ble_eq_true rfl) ⟨rfl, rfl, h⟩ dX3_init_34
set_option maxRecDepth 100000 in
set_option maxHeartbeats 4000000 in
theorem sX3_init {l : Launch} {G : Gx} {d : Nat} {K N : TK} {I : TI} {R : TR} {L : TL} {sz : Nat} {φ : TK → TK → TI → TR → Nat → Prop} {a0 : Nat} {x1 : Int32} {x2 : Int32}
    (h : ∀ K1 : TK, K1 = va_up K sz 12 → ∀ I2 : TI, I2 = va_up I sz (fun _ => 0) → ∀ R3 : TR, R3 = va_up R sz (fun _ => none) → ∀ z5 : Nat, z5 = sz + 1 → ∃ φ6 : TK → TK → TI → TR → Nat → Prop, MtAV l G yX1_init cX1_init 1 none d 6 1800 [.ref sz] K1 N I2 R3 L z5 φ6 ∧ ∀ (K11 : TK) (N12 : TK) (I9 : TI) (R10 : TR) (z13 : Nat), φ6 K11 N12 I9 R10 z13 → K11 a0 = 14 ∧ ∀ R16 : TR, R16 = u2 R10 a0 2 (some sz) → ∀ K17 : TK, K17 = va_up K11 z13 20 → ∀ N20 : TK, N20 = va_up N12 z13 200 → ∀ I18 : TI, I18 = va_up I9 z13 (fun _ => 0) → ∀ z21 : Nat, z21 = z13 + 1 → K17 a0 = 14 ∧ ∀ R23 : TR, R23 = u2 R16 a0 3 (some z13) → ∀ I24 : TI, I24 = u2 I18 a0 0 x1 → ∀ I25 : TI, I25 = u2 I24 a0 1 x2 → φ K17 N20 I25 R23 z21) :
    MtAV l G yX3_init cX3_init 3 none (d + 1) 8 2007 [.ref a0, .int x1, .int x2] K N I R L sz φ :=
  MetM.of (own := RX3) (by decide) rfl (catR (catI (catI cat0))) (Nat.le_of_ble_eq_true rfl) (fun p e s m args below meth c C hr hnm => vX3_init_0 C hr hnm h)
set_option maxRecDepth 100000 in
set_option maxHeartbeats 4000000 in
theorem vX3_append_0 {p : Program} {l : Launch} {e : Env} {s : State} {m : MethodId} {args : Array Value} {below : List Frame} {meth : Method} {c : Code} {G : Gx} {d : Nat} {K N : TK} {I : TI} {R : TR} {L : TL} {sz : Nat} {φ : Int32 → TI → Prop} (C : Cx p s m args meth c (AM K sz) G RX3 cX3_append 2) (hr : meth.sig.returnType = (some .boolean)) {a0 : Nat} {x1 : Int32}
    (h : K a0 = 14 ∧ ∃ b2, R a0 3 = some b2 ∧ K b2 = 20 ∧ (((I a0 4) < (nI (N b2)) → vp_in (I a0 4) (N b2) ∧ ∀ I6 : TI, I6 = u2 I b2 (Int32.toNatClampNeg (I a0 4)) x1 → ∀ I7 : TI, I7 = u2 I6 a0 4 ((I6 a0 4) + 1) → φ 1 I7) ∧ (¬ (I a0 4) < (nI (N b2)) → φ 0 I))) :
    WI p l e s m args below meth c G d φ K N R L sz 2 0 [(0, .ref a0), (1, .int x1)] I := by
  refine wm_aload_n C rfl dX3_append_0 ?_
  obtain ⟨hk1, h⟩ := h
  refine wm_getI C fqX3_29 hk1 dX3_append_1 ?_
  refine wm_aload_n C rfl dX3_append_4 ?_
  obtain ⟨b2, hr3, h⟩ := h
  refine wm_getR C fqX3_18 hk1 hr3 dX3_append_5 ?_
  obtain ⟨hk4, h⟩ := h
  refine wm_alen C (Or.inl hk4) dX3_append_8 ?_
  refine wm_icmp_lt C 14 dX3_append_9 (by decide) (fun q => ?_) (fun q => ?_)
  · replace h := h.1 q
    refine wm_aload_n C rfl dX3_append_14 ?_
    refine wm_getR C fqX3_18 hk1 hr3 dX3_append_15 ?_
    refine wm_aload_n C rfl dX3_append_18 ?_
    refine wm_getI C fqX3_29 hk1 dX3_append_19 ?_
    refine wm_iload_n C rfl dX3_append_22 ?_
    obtain ⟨hi5, h⟩ := h
    refine wm_iast C hk4 hi5 dX3_append_23 ?_
    refine nmI (fun I6 hI6 => ?_)
    replace h := h I6 hI6
    refine wm_aload_n C rfl dX3_append_24 ?_
    refine wm_dup C rfl dX3_append_25 ?_
    refine wm_getI C fqX3_29 hk1 dX3_append_26 ?_
    refine wm_iconst C 1 dX3_append_29 ?_ (by decide)
    refine wm_iadd C dX3_append_30 ?_
    refine wm_putI C fqX3_29 hk1 dX3_append_31 ?_
    refine nmI (fun I7 hI7 => ?_)
    replace h := h I7 hI7
    refine wm_iconst C 1 dX3_append_34 ?_ (by decide)
    exact wm_iret C hr rfl (Nat.le_of_ble_eq_true rfl) (Nat.le_of_ble_eq_true rfl) ⟨rfl, rfl, rfl, rfl, rfl, _, rfl, h⟩ dX3_append_35
  · replace h := h.2 q
    refine wm_iconst C 0 dX3_append_12 ?_ (by decide)
    exact wm_iret C hr rfl (Nat.le_of_ble_eq_true rfl) (Nat.le_of_ble_eq_true rfl) ⟨rfl, rfl, rfl, rfl, rfl, _, rfl, h⟩ dX3_append_13
set_option maxRecDepth 100000 in
set_option maxHeartbeats 4000000 in
theorem sX3_append {l : Launch} {G : Gx} {d : Nat} {K N : TK} {I : TI} {R : TR} {L : TL} {sz : Nat} {φ : Int32 → TI → Prop} {a0 : Nat} {x1 : Int32}
    (h : K a0 = 14 ∧ ∃ b2, R a0 3 = some b2 ∧ K b2 = 20 ∧ (((I a0 4) < (nI (N b2)) → vp_in (I a0 4) (N b2) ∧ ∀ I6 : TI, I6 = u2 I b2 (Int32.toNatClampNeg (I a0 4)) x1 → ∀ I7 : TI, I7 = u2 I6 a0 4 ((I6 a0 4) + 1) → φ 1 I7) ∧ (¬ (I a0 4) < (nI (N b2)) → φ 0 I))) :
    MtI l G yX3_append cX3_append 2 (some .boolean) d [.ref a0, .int x1] K N I R L sz φ :=
  MetM.of (own := RX3) (by decide) rfl (catR (catI cat0)) (Nat.le_of_ble_eq_true rfl) (fun p e s m args below meth c C hr hnm => vX3_append_0 C hr h)
set_option maxRecDepth 100000 in
set_option maxHeartbeats 4000000 in
theorem vX3_entry_0 {p : Program} {l : Launch} {e : Env} {s : State} {m : MethodId} {args : Array Value} {below : List Frame} {meth : Method} {c : Code} {G : Gx} {d : Nat} {K N : TK} {I : TI} {R : TR} {L : TL} {sz : Nat} {φ : Int32 → TI → Prop} (C : Cx p s m args meth c (AM K sz) G RX3 cX3_entry 2) (hr : meth.sig.returnType = (some .int)) {a0 : Nat} {x1 : Int32}
    (h : ((x1 < 0 → φ (-1) I) ∧ (¬ x1 < 0 → K a0 = 14 ∧ (((I a0 4) ≤ x1 → φ (-1) I) ∧ (¬ (I a0 4) ≤ x1 → ∃ b2, R a0 3 = some b2 ∧ K b2 = 20 ∧ vp_in x1 (N b2) ∧ φ (I b2 (Int32.toNatClampNeg x1)) I))))) :
    WI p l e s m args below meth c G d φ K N R L sz 2 0 [(0, .ref a0), (1, .int x1)] I := by
  refine wm_iload_n C rfl dX3_entry_0 ?_
  refine wm_if_lt C 21 dX3_entry_1 (by decide) (fun q => ?_) (fun q => ?_)
  · replace h := h.1 q
    refine wm_iconst C (-1) dX3_entry_21 ?_ (by decide)
    exact wm_iret C hr rfl (Nat.le_of_ble_eq_true rfl) (Nat.le_of_ble_eq_true rfl) ⟨rfl, rfl, rfl, rfl, rfl, _, rfl, h⟩ dX3_entry_22
  · replace h := h.2 q
    refine wm_iload_n C rfl dX3_entry_4 ?_
    refine wm_aload_n C rfl dX3_entry_5 ?_
    obtain ⟨hk1, h⟩ := h
    refine wm_getI C fqX3_29 hk1 dX3_entry_6 ?_
    refine wm_icmp_ge C 21 dX3_entry_9 (by decide) (fun q => ?_) (fun q => ?_)
    · replace h := h.1 q
      refine wm_iconst C (-1) dX3_entry_21 ?_ (by decide)
      exact wm_iret C hr rfl (Nat.le_of_ble_eq_true rfl) (Nat.le_of_ble_eq_true rfl) ⟨rfl, rfl, rfl, rfl, rfl, _, rfl, h⟩ dX3_entry_22
    · replace h := h.2 q
      refine wm_aload_n C rfl dX3_entry_12 ?_
      obtain ⟨b2, hr3, h⟩ := h
      refine wm_getR C fqX3_18 hk1 hr3 dX3_entry_13 ?_
      refine wm_iload_n C rfl dX3_entry_16 ?_
      obtain ⟨hk4, h⟩ := h
      obtain ⟨hi5, h⟩ := h
      refine wm_iald C hk4 hi5 dX3_entry_17 ?_
      refine wm_goto C 22 dX3_entry_18 ?_ (by decide)
      exact wm_iret C hr rfl (Nat.le_of_ble_eq_true rfl) (Nat.le_of_ble_eq_true rfl) ⟨rfl, rfl, rfl, rfl, rfl, _, rfl, h⟩ dX3_entry_22
set_option maxRecDepth 100000 in
set_option maxHeartbeats 4000000 in
theorem sX3_entry {l : Launch} {G : Gx} {d : Nat} {K N : TK} {I : TI} {R : TR} {L : TL} {sz : Nat} {φ : Int32 → TI → Prop} {a0 : Nat} {x1 : Int32}
    (h : ((x1 < 0 → φ (-1) I) ∧ (¬ x1 < 0 → K a0 = 14 ∧ (((I a0 4) ≤ x1 → φ (-1) I) ∧ (¬ (I a0 4) ≤ x1 → ∃ b2, R a0 3 = some b2 ∧ K b2 = 20 ∧ vp_in x1 (N b2) ∧ φ (I b2 (Int32.toNatClampNeg x1)) I))))) :
    MtI l G yX3_entry cX3_entry 2 (some .int) d [.ref a0, .int x1] K N I R L sz φ :=
  MetM.of (own := RX3) (by decide) rfl (catR (catI cat0)) (Nat.le_of_ble_eq_true rfl) (fun p e s m args below meth c C hr hnm => vX3_entry_0 C hr h)
set_option maxRecDepth 100000 in
set_option maxHeartbeats 4000000 in
theorem vX4_init_0 {p : Program} {l : Launch} {e : Env} {s : State} {m : MethodId} {args : Array Value} {below : List Frame} {meth : Method} {c : Code} {G : Gx} {d : Nat} {K N : TK} {I : TI} {R : TR} {L : TL} {sz : Nat} {φ : TK → TK → TI → TR → Nat → Prop} (C : Cx p s m args meth c (AM K sz) G RX4 cX4_init 1) (hr : meth.sig.returnType = none) (hnm : meth.name = "<init>") {a0 : Nat}
    (h : ∀ K1 : TK, K1 = va_up K sz 20 → ∀ N4 : TK, N4 = va_up N sz 10 → ∀ I2 : TI, I2 = va_up I sz (fun _ => 0) → ∀ z5 : Nat, z5 = sz + 1 → K1 a0 = 15 ∧ ∀ R7 : TR, R7 = u2 R a0 0 (some sz) → φ K1 N4 I2 R7 z5) :
    Wm p l e (rmD (d + 1) 1 10) s m args below meth c (MQ below (PoM G K sz (pAV K N R L sz φ)) args s 1 10 (AM K sz)) (AM K sz) G 1 0 [(0, .ref a0)] [] K N I R L sz 0 0 := by
  refine wm_aload_n C rfl dX4_init_0 ?_
  refine wm_objInit C oqX4_3 ⟨by simp only [rmD]; omega, by simp only [rmD]; omega⟩ (Nat.le_of_ble_eq_true rfl) dX4_init_1 ?_
  refine wm_aload_n C rfl dX4_init_4 ?_
  refine wm_bipush C 10 dX4_init_5 ?_ (by decide)
  refine wm_newI C 10 ac_int (by decide) (by decide) (by decide) (Nat.le_of_ble_eq_true rfl) (Nat.le_of_ble_eq_true rfl) dX4_init_7 ?_
  refine nmKNI (fun K1 hK1 N4 hN4 I2 hI2 => ?_)
  replace h := h K1 hK1 N4 hN4 I2 hI2
  refine nmz (fun z5 hz5 => ?_)
  replace h := h z5 hz5
  obtain ⟨hk6, h⟩ := h
  refine wm_putFR C fqX4_9 hnm rfl hk6 rfl rfl dX4_init_9 ?_
  refine nmR (fun R7 hR7 => ?_)
  replace h := h R7 hR7
  exact wm_vret C hr (Nat.le_of_ble_eq_true rfl) (Nat.le_of_ble_eq_true rfl) ⟨rfl, rfl, h⟩ dX4_init_12
set_option maxRecDepth 100000 in
set_option maxHeartbeats 4000000 in
theorem sX4_init {l : Launch} {G : Gx} {d : Nat} {K N : TK} {I : TI} {R : TR} {L : TL} {sz : Nat} {φ : TK → TK → TI → TR → Nat → Prop} {a0 : Nat}
    (h : ∀ K1 : TK, K1 = va_up K sz 20 → ∀ N4 : TK, N4 = va_up N sz 10 → ∀ I2 : TI, I2 = va_up I sz (fun _ => 0) → ∀ z5 : Nat, z5 = sz + 1 → K1 a0 = 15 ∧ ∀ R7 : TR, R7 = u2 R a0 0 (some sz) → φ K1 N4 I2 R7 z5) :
    MtAV l G yX4_init cX4_init 1 none (d + 1) 1 10 [.ref a0] K N I R L sz φ :=
  MetM.of (own := RX4) (by decide) rfl (catR cat0) (Nat.le_of_ble_eq_true rfl) (fun p e s m args below meth c C hr hnm => vX4_init_0 C hr hnm h)
set_option maxRecDepth 100000 in
set_option maxHeartbeats 4000000 in
theorem vX4_isFull_0 {p : Program} {l : Launch} {e : Env} {s : State} {m : MethodId} {args : Array Value} {below : List Frame} {meth : Method} {c : Code} {G : Gx} {d : Nat} {K N : TK} {I : TI} {R : TR} {L : TL} {sz : Nat} {φ : Int32 → TI → Prop} (C : Cx p s m args meth c (AM K sz) G RX4 cX4_isFull 1) (hr : meth.sig.returnType = (some .boolean)) {a0 : Nat}
    (h : K a0 = 15 ∧ ∃ b2, R a0 0 = some b2 ∧ K b2 = 20 ∧ (((I a0 1) < (nI (N b2)) → φ 0 I) ∧ (¬ (I a0 1) < (nI (N b2)) → φ 1 I))) :
    WI p l e s m args below meth c G d φ K N R L sz 1 0 [(0, .ref a0)] I := by
  refine wm_aload_n C rfl dX4_isFull_0 ?_
  obtain ⟨hk1, h⟩ := h
  refine wm_getI C fqX4_15 hk1 dX4_isFull_1 ?_
  refine wm_aload_n C rfl dX4_isFull_4 ?_
  obtain ⟨b2, hr3, h⟩ := h
  refine wm_getR C fqX4_9 hk1 hr3 dX4_isFull_5 ?_
  obtain ⟨hk4, h⟩ := h
  refine wm_alen C (Or.inl hk4) dX4_isFull_8 ?_
  refine wm_icmp_lt C 16 dX4_isFull_9 (by decide) (fun q => ?_) (fun q => ?_)
  · replace h := h.1 q
    refine wm_iconst C 0 dX4_isFull_16 ?_ (by decide)
    exact wm_iret C hr rfl (Nat.le_of_ble_eq_true rfl) (Nat.le_of_ble_eq_true rfl) ⟨rfl, rfl, rfl, rfl, rfl, _, rfl, h⟩ dX4_isFull_17
  · replace h := h.2 q
    refine wm_iconst C 1 dX4_isFull_12 ?_ (by decide)
    refine wm_goto C 17 dX4_isFull_13 ?_ (by decide)
    exact wm_iret C hr rfl (Nat.le_of_ble_eq_true rfl) (Nat.le_of_ble_eq_true rfl) ⟨rfl, rfl, rfl, rfl, rfl, _, rfl, h⟩ dX4_isFull_17
set_option maxRecDepth 100000 in
set_option maxHeartbeats 4000000 in
theorem sX4_isFull {l : Launch} {G : Gx} {d : Nat} {K N : TK} {I : TI} {R : TR} {L : TL} {sz : Nat} {φ : Int32 → TI → Prop} {a0 : Nat}
    (h : K a0 = 15 ∧ ∃ b2, R a0 0 = some b2 ∧ K b2 = 20 ∧ (((I a0 1) < (nI (N b2)) → φ 0 I) ∧ (¬ (I a0 1) < (nI (N b2)) → φ 1 I))) :
    MtI l G yX4_isFull cX4_isFull 1 (some .boolean) d [.ref a0] K N I R L sz φ :=
  MetM.of (own := RX4) (by decide) rfl (catR cat0) (Nat.le_of_ble_eq_true rfl) (fun p e s m args below meth c C hr hnm => vX4_isFull_0 C hr h)
set_option maxRecDepth 100000 in
set_option maxHeartbeats 4000000 in
theorem vX4_append_0 {p : Program} {l : Launch} {e : Env} {s : State} {m : MethodId} {args : Array Value} {below : List Frame} {meth : Method} {c : Code} {G : Gx} {d : Nat} {K N : TK} {I : TI} {R : TR} {L : TL} {sz : Nat} {φ : TI → Prop} (C : Cx p s m args meth c (AM K sz) G RX4 cX4_append 2) (hr : meth.sig.returnType = none) {a0 : Nat} {x1 : Int32}
    (h : K a0 = 15 ∧ ∃ φ2 : Int32 → TI → Prop, MtI l G yX4_isFull cX4_isFull 1 (some .boolean) d [.ref a0] K N I R L sz φ2 ∧ ∀ (r4 : Int32) (I5 : TI), φ2 r4 I5 → ((¬ r4 = 0 → φ I5) ∧ (r4 = 0 → ∃ b11, R a0 0 = some b11 ∧ K b11 = 20 ∧ vp_in (I5 a0 1) (N b11) ∧ ∀ I15 : TI, I15 = u2 I5 b11 (Int32.toNatClampNeg (I5 a0 1)) x1 → ∀ I16 : TI, I16 = u2 I15 a0 1 ((I15 a0 1) + 1) → φ I16))) :
    WV p l e s m args below meth c G (d + 1) φ K N R L sz 2 0 [(0, .ref a0), (1, .int x1)] I := by
  refine wm_aload_n C rfl dX4_append_0 ?_
  obtain ⟨hk1, h⟩ := h
  obtain ⟨φ2, hM3, h⟩ := h
  refine wm_cVI0 C vqX4_19 hM3 hk1 ⟨Nat.le_refl _, Nat.le_refl _⟩ (Nat.le_of_ble_eq_true rfl) ⟨Nat.le_of_ble_eq_true rfl, Nat.le_of_ble_eq_true rfl⟩ dX4_append_1 (fun r4 I5 hφ10 => ?_)
  replace h := h r4 I5 hφ10
  refine wm_if_ne C 27 dX4_append_4 (by decide) (fun q => ?_) (fun q => ?_)
  · replace h := h.1 q
    exact wm_vret C hr (Nat.le_of_ble_eq_true rfl) (Nat.le_of_ble_eq_true rfl) ⟨rfl, rfl, rfl, rfl, rfl, rfl, h⟩ dX4_append_27
  · replace h := h.2 q
    refine wm_aload_n C rfl dX4_append_7 ?_
    obtain ⟨b11, hr12, h⟩ := h
    refine wm_getR C fqX4_9 hk1 hr12 dX4_append_8 ?_
    refine wm_aload_n C rfl dX4_append_11 ?_
    refine wm_getI C fqX4_15 hk1 dX4_append_12 ?_
    refine wm_iload_n C rfl dX4_append_15 ?_
    obtain ⟨hk13, h⟩ := h
    obtain ⟨hi14, h⟩ := h
    refine wm_iast C hk13 hi14 dX4_append_16 ?_
    refine nmI (fun I15 hI15 => ?_)
    replace h := h I15 hI15
    refine wm_aload_n C rfl dX4_append_17 ?_
    refine wm_dup C rfl dX4_append_18 ?_
    refine wm_getI C fqX4_15 hk1 dX4_append_19 ?_
    refine wm_iconst C 1 dX4_append_22 ?_ (by decide)
    refine wm_iadd C dX4_append_23 ?_
    refine wm_putI C fqX4_15 hk1 dX4_append_24 ?_
    refine nmI (fun I16 hI16 => ?_)
    replace h := h I16 hI16
    exact wm_vret C hr (Nat.le_of_ble_eq_true rfl) (Nat.le_of_ble_eq_true rfl) ⟨rfl, rfl, rfl, rfl, rfl, rfl, h⟩ dX4_append_27
set_option maxRecDepth 100000 in
set_option maxHeartbeats 4000000 in
theorem sX4_append {l : Launch} {G : Gx} {d : Nat} {K N : TK} {I : TI} {R : TR} {L : TL} {sz : Nat} {φ : TI → Prop} {a0 : Nat} {x1 : Int32}
    (h : K a0 = 15 ∧ ∃ φ2 : Int32 → TI → Prop, MtI l G yX4_isFull cX4_isFull 1 (some .boolean) d [.ref a0] K N I R L sz φ2 ∧ ∀ (r4 : Int32) (I5 : TI), φ2 r4 I5 → ((¬ r4 = 0 → φ I5) ∧ (r4 = 0 → ∃ b11, R a0 0 = some b11 ∧ K b11 = 20 ∧ vp_in (I5 a0 1) (N b11) ∧ ∀ I15 : TI, I15 = u2 I5 b11 (Int32.toNatClampNeg (I5 a0 1)) x1 → ∀ I16 : TI, I16 = u2 I15 a0 1 ((I15 a0 1) + 1) → φ I16))) :
    MtV l G yX4_append cX4_append 2 none (d + 1) [.ref a0, .int x1] K N I R L sz φ :=
  MetM.of (own := RX4) (by decide) rfl (catR (catI cat0)) (Nat.le_of_ble_eq_true rfl) (fun p e s m args below meth c C hr hnm => vX4_append_0 C hr h)
set_option maxRecDepth 100000 in
set_option maxHeartbeats 4000000 in
theorem vX4_get_0 {p : Program} {l : Launch} {e : Env} {s : State} {m : MethodId} {args : Array Value} {below : List Frame} {meth : Method} {c : Code} {G : Gx} {d : Nat} {K N : TK} {I : TI} {R : TR} {L : TL} {sz : Nat} {φ : Int32 → TI → Prop} (C : Cx p s m args meth c (AM K sz) G RX4 cX4_get 2) (hr : meth.sig.returnType = (some .int)) {a0 : Nat} {x1 : Int32}
    (h : ((x1 < 0 → φ 0 I) ∧ (¬ x1 < 0 → K a0 = 15 ∧ (((I a0 1) ≤ x1 → φ 0 I) ∧ (¬ (I a0 1) ≤ x1 → ∃ b2, R a0 0 = some b2 ∧ K b2 = 20 ∧ vp_in x1 (N b2) ∧ φ (I b2 (Int32.toNatClampNeg x1)) I))))) :
    WI p l e s m args below meth c G d φ K N R L sz 2 0 [(0, .ref a0), (1, .int x1)] I := by
  refine wm_iload_n C rfl dX4_get_0 ?_
  refine wm_if_lt C 21 dX4_get_1 (by decide) (fun q => ?_) (fun q => ?_)
  · replace h := h.1 q
    refine wm_iconst C 0 dX4_get_21 ?_ (by decide)
    exact wm_iret C hr rfl (Nat.le_of_ble_eq_true rfl) (Nat.le_of_ble_eq_true rfl) ⟨rfl, rfl, rfl, rfl, rfl, _, rfl, h⟩ dX4_get_22
  · replace h := h.2 q
    refine wm_iload_n C rfl dX4_get_4 ?_
    refine wm_aload_n C rfl dX4_get_5 ?_
    obtain ⟨hk1, h⟩ := h
    refine wm_getI C fqX4_15 hk1 dX4_get_6 ?_
    refine wm_icmp_ge C 21 dX4_get_9 (by decide) (fun q => ?_) (fun q => ?_)
    · replace h := h.1 q
      refine wm_iconst C 0 dX4_get_21 ?_ (by decide)
      exact wm_iret C hr rfl (Nat.le_of_ble_eq_true rfl) (Nat.le_of_ble_eq_true rfl) ⟨rfl, rfl, rfl, rfl, rfl, _, rfl, h⟩ dX4_get_22
    · replace h := h.2 q
      refine wm_aload_n C rfl dX4_get_12 ?_
      obtain ⟨b2, hr3, h⟩ := h
      refine wm_getR C fqX4_9 hk1 hr3 dX4_get_13 ?_
      refine wm_iload_n C rfl dX4_get_16 ?_
      obtain ⟨hk4, h⟩ := h
      obtain ⟨hi5, h⟩ := h
      refine wm_iald C hk4 hi5 dX4_get_17 ?_
      refine wm_goto C 22 dX4_get_18 ?_ (by decide)
      exact wm_iret C hr rfl (Nat.le_of_ble_eq_true rfl) (Nat.le_of_ble_eq_true rfl) ⟨rfl, rfl, rfl, rfl, rfl, _, rfl, h⟩ dX4_get_22
set_option maxRecDepth 100000 in
set_option maxHeartbeats 4000000 in
theorem sX4_get {l : Launch} {G : Gx} {d : Nat} {K N : TK} {I : TI} {R : TR} {L : TL} {sz : Nat} {φ : Int32 → TI → Prop} {a0 : Nat} {x1 : Int32}
    (h : ((x1 < 0 → φ 0 I) ∧ (¬ x1 < 0 → K a0 = 15 ∧ (((I a0 1) ≤ x1 → φ 0 I) ∧ (¬ (I a0 1) ≤ x1 → ∃ b2, R a0 0 = some b2 ∧ K b2 = 20 ∧ vp_in x1 (N b2) ∧ φ (I b2 (Int32.toNatClampNeg x1)) I))))) :
    MtI l G yX4_get cX4_get 2 (some .int) d [.ref a0, .int x1] K N I R L sz φ :=
  MetM.of (own := RX4) (by decide) rfl (catR (catI cat0)) (Nat.le_of_ble_eq_true rfl) (fun p e s m args below meth c C hr hnm => vX4_get_0 C hr h)
