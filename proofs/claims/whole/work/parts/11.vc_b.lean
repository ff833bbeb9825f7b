set_option maxRecDepth 100000 in
set_option maxHeartbeats 4000000 in
theorem vX5_init_0 {p : Program} {l : Launch} {e : Env} {s : State} {m : MethodId} {args : Array Value} {below : List Frame} {meth : Method} {c : Code} {G : Gx} {d : Nat} {K N : TK} {I : TI} {R : TR} {L : TL} {sz : Nat} {φ : TK → TK → TI → TR → Nat → Prop} (C : Cx p s m args meth c (AM K sz) G RX5 cX5_init 1) (hr : meth.sig.returnType = none) (hnm : meth.name = "<init>") {a0 : Nat}
    (h : ∀ K1 : TK, K1 = va_up K sz 25 → ∀ N4 : TK, N4 = va_up N sz 13 → ∀ R3 : TR, R3 = va_up R sz (fun _ => none) → ∀ z5 : Nat, z5 = sz + 1 → K1 a0 = 16 ∧ ∀ R7 : TR, R7 = u2 R3 a0 0 (some sz) → ∀ K8 : TK, K8 = va_up K1 z5 24 → ∀ N11 : TK, N11 = va_up N4 z5 60 → ∀ R10 : TR, R10 = va_up R7 z5 (fun _ => none) → ∀ z12 : Nat, z12 = z5 + 1 → K8 a0 = 16 ∧ ∀ R14 : TR, R14 = u2 R10 a0 1 (some z5) → ∀ K15 : TK, K15 = va_up K8 z12 23 → ∀ N18 : TK, N18 = va_up N11 z12 100 → ∀ R17 : TR, R17 = va_up R14 z12 (fun _ => none) → ∀ z19 : Nat, z19 = z12 + 1 → K15 a0 = 16 ∧ ∀ R21 : TR, R21 = u2 R17 a0 2 (some z12) → ∀ K22 : TK, K22 = va_up K15 z19 25 → ∀ N25 : TK, N25 = va_up N18 z19 13 → ∀ R24 : TR, R24 = va_up R21 z19 (fun _ => none) → ∀ z26 : Nat, z26 = z19 + 1 → K22 a0 = 16 ∧ ∀ R28 : TR, R28 = u2 R24 a0 6 (some z19) → ∀ K29 : TK, K29 = va_up K22 z26 12 → ∀ I30 : TI, I30 = va_up I z26 (fun _ => 0) → ∀ R31 : TR, R31 = va_up R28 z26 (fun _ => none) → ∀ z33 : Nat, z33 = z26 + 1 → ∃ φ34 : TK → TK → TI → TR → Nat → Prop, MtAV l G yX1_init cX1_init 1 none d 6 1800 [.ref z26] K29 N25 I30 R31 L z33 φ34 ∧ ∀ (K39 : TK) (N40 : TK) (I37 : TI) (R38 : TR) (z41 : Nat), φ34 K39 N40 I37 R38 z41 → K39 a0 = 16 ∧ ∀ R44 : TR, R44 = u2 R38 a0 7 (some z26) → ∀ K45 : TK, K45 = va_up K39 z41 12 → ∀ I46 : TI, I46 = va_up I37 z41 (fun _ => 0) → ∀ R47 : TR, R47 = va_up R44 z41 (fun _ => none) → ∀ z49 : Nat, z49 = z41 + 1 → ∃ φ50 : TK → TK → TI → TR → Nat → Prop, MtAV l G yX1_init cX1_init 1 none d 6 1800 [.ref z41] K45 N40 I46 R47 L z49 φ50 ∧ ∀ (K55 : TK) (N56 : TK) (I53 : TI) (R54 : TR) (z57 : Nat), φ50 K55 N56 I53 R54 z57 → K55 a0 = 16 ∧ ∀ R60 : TR, R60 = u2 R54 a0 8 (some z41) → ∀ K61 : TK, K61 = va_up K55 z57 20 → ∀ N64 : TK, N64 = va_up N56 z57 13 → ∀ I62 : TI, I62 = va_up I53 z57 (fun _ => 0) → ∀ z65 : Nat, z65 = z57 + 1 → K61 a0 = 16 ∧ ∀ R67 : TR, R67 = u2 R60 a0 9 (some z57) → ∃ b68, R67 a0 0 = some b68 ∧ ∀ K70 : TK, K70 = va_up K61 z65 14 → ∀ I71 : TI, I71 = va_up I62 z65 (fun _ => 0) → ∀ R72 : TR, R72 = va_up R67 z65 (fun _ => none) → ∀ z74 : Nat, z74 = z65 + 1 → ∃ φ75 : TK → TK → TI → TR → Nat → Prop, MtAV l G yX3_init cX3_init 3 none d 8 2007 [.ref z65, .int 0, .int (-1)] K70 N64 I71 R72 L z74 φ75 ∧ ∀ (K80 : TK) (N81 : TK) (I78 : TI) (R79 : TR) (z82 : Nat), φ75 K80 N81 I78 R79 z82 → K80 b68 = 25 ∧ vp_in 0 (N81 b68) ∧ K80 z65 = 14 ∧ ∀ R87 : TR, R87 = u2 R79 b68 (Int32.toNatClampNeg 0) (some z65) → K80 a0 = 16 ∧ ∀ I89 : TI, I89 = u2 I78 a0 3 1 → φ K80 N81 I89 R87 z82) :
    Wm p l e (rmD (d + 1) 28 5825) s m args below meth c (MQ below (PoM G K sz (pAV K N R L sz φ)) args s 28 5825 (AM K sz)) (AM K sz) G 1 0 [(0, .ref a0)] [] K N I R L sz 0 0 := by
  refine wm_aload_n C rfl dX5_init_0 ?_
  refine wm_objInit C oqX5_1 ⟨by simp only [rmD]; omega, by simp only [rmD]; omega⟩ (Nat.le_of_ble_eq_true rfl) dX5_init_1 ?_
  refine wm_aload_n C rfl dX5_init_4 ?_
  refine wm_bipush C 13 dX5_init_5 ?_ (by decide)
  refine wm_newQ (t := 5) C 13 (by decide) (by decide) aqX5_9 (by decide) (by decide) (by decide) (Nat.le_of_ble_eq_true rfl) (Nat.le_of_ble_eq_true rfl) dX5_init_7 ?_
  refine nmKNR (fun K1 hK1 N4 hN4 R3 hR3 => ?_)
  replace h := h K1 hK1 N4 hN4 R3 hR3
  refine nmz (fun z5 hz5 => ?_)
  replace h := h z5 hz5
  obtain ⟨hk6, h⟩ := h
  refine wm_putFR C fqX5_11 hnm rfl hk6 rfl rfl dX5_init_10 ?_
  refine nmR (fun R7 hR7 => ?_)
  replace h := h R7 hR7
  refine wm_aload_n C rfl dX5_init_13 ?_
  refine wm_bipush C 60 dX5_init_14 ?_ (by decide)
  refine wm_newQ (t := 4) C 60 (by decide) (by decide) aqX5_15 (by decide) (by decide) (by decide) (Nat.le_of_ble_eq_true rfl) (Nat.le_of_ble_eq_true rfl) dX5_init_16 ?_
  refine nmKNR (fun K8 hK8 N11 hN11 R10 hR10 => ?_)
  replace h := h K8 hK8 N11 hN11 R10 hR10
  refine nmz (fun z12 hz12 => ?_)
  replace h := h z12 hz12
  obtain ⟨hk13, h⟩ := h
  refine wm_putFR C fqX5_17 hnm rfl hk13 rfl rfl dX5_init_19 ?_
  refine nmR (fun R14 hR14 => ?_)
  replace h := h R14 hR14
  refine wm_aload_n C rfl dX5_init_22 ?_
  refine wm_bipush C 100 dX5_init_23 ?_ (by decide)
  refine wm_newQ (t := 3) C 100 (by decide) (by decide) aqX5_21 (by decide) (by decide) (by decide) (Nat.le_of_ble_eq_true rfl) (Nat.le_of_ble_eq_true rfl) dX5_init_25 ?_
  refine nmKNR (fun K15 hK15 N18 hN18 R17 hR17 => ?_)
  replace h := h K15 hK15 N18 hN18 R17 hR17
  refine nmz (fun z19 hz19 => ?_)
  replace h := h z19 hz19
  obtain ⟨hk20, h⟩ := h
  refine wm_putFR C fqX5_23 hnm rfl hk20 rfl rfl dX5_init_28 ?_
  refine nmR (fun R21 hR21 => ?_)
  replace h := h R21 hR21
  refine wm_aload_n C rfl dX5_init_31 ?_
  refine wm_bipush C 13 dX5_init_32 ?_ (by decide)
  refine wm_newQ (t := 5) C 13 (by decide) (by decide) aqX5_9 (by decide) (by decide) (by decide) (Nat.le_of_ble_eq_true rfl) (Nat.le_of_ble_eq_true rfl) dX5_init_34 ?_
  refine nmKNR (fun K22 hK22 N25 hN25 R24 hR24 => ?_)
  replace h := h K22 hK22 N25 hN25 R24 hR24
  refine nmz (fun z26 hz26 => ?_)
  replace h := h z26 hz26
  obtain ⟨hk27, h⟩ := h
  refine wm_putFR C fqX5_27 hnm rfl hk27 rfl rfl dX5_init_37 ?_
  refine nmR (fun R28 hR28 => ?_)
  replace h := h R28 hR28
  refine wm_aload_n C rfl dX5_init_40 ?_
  refine wm_new C nqX5_30 (Nat.le_of_ble_eq_true rfl) (Nat.le_of_ble_eq_true rfl) dX5_init_41 ?_
  refine nmKIR (fun K29 hK29 I30 hI30 R31 hR31 => ?_)
  replace h := h K29 hK29 I30 hI30 R31 hR31
  refine nmz (fun z33 hz33 => ?_)
  replace h := h z33 hz33
  refine wm_dup C rfl dX5_init_44 ?_
  obtain ⟨φ34, hM35, h⟩ := h
  refine wm_cJAV0 C jqX5_32 hM35 ⟨Nat.le_refl _, Nat.le_refl _⟩ (Nat.le_of_ble_eq_true rfl) ⟨Nat.le_of_ble_eq_true rfl, Nat.le_of_ble_eq_true rfl⟩ dX5_init_45 (fun K39 N40 I37 R38 z41 hφ42 => ?_)
  replace h := h K39 N40 I37 R38 z41 hφ42
  obtain ⟨hk43, h⟩ := h
  refine wm_putFR C fqX5_33 hnm rfl hk43 rfl rfl dX5_init_48 ?_
  refine nmR (fun R44 hR44 => ?_)
  replace h := h R44 hR44
  refine wm_aload_n C rfl dX5_init_51 ?_
  refine wm_new C nqX5_30 (Nat.le_of_ble_eq_true rfl) (Nat.le_of_ble_eq_true rfl) dX5_init_52 ?_
  refine nmKIR (fun K45 hK45 I46 hI46 R47 hR47 => ?_)
  replace h := h K45 hK45 I46 hI46 R47 hR47
  refine nmz (fun z49 hz49 => ?_)
  replace h := h z49 hz49
  refine wm_dup C rfl dX5_init_55 ?_
  obtain ⟨φ50, hM51, h⟩ := h
  refine wm_cJAV0 C jqX5_32 hM51 ⟨Nat.le_refl _, Nat.le_refl _⟩ (Nat.le_of_ble_eq_true rfl) ⟨Nat.le_of_ble_eq_true rfl, Nat.le_of_ble_eq_true rfl⟩ dX5_init_56 (fun K55 N56 I53 R54 z57 hφ58 => ?_)
  replace h := h K55 N56 I53 R54 z57 hφ58
  obtain ⟨hk59, h⟩ := h
  refine wm_putFR C fqX5_37 hnm rfl hk59 rfl rfl dX5_init_59 ?_
  refine nmR (fun R60 hR60 => ?_)
  replace h := h R60 hR60
  refine wm_aload_n C rfl dX5_init_62 ?_
  refine wm_bipush C 13 dX5_init_63 ?_ (by decide)
  refine wm_newI C 13 ac_int (by decide) (by decide) (by decide) (Nat.le_of_ble_eq_true rfl) (Nat.le_of_ble_eq_true rfl) dX5_init_65 ?_
  refine nmKNI (fun K61 hK61 N64 hN64 I62 hI62 => ?_)
  replace h := h K61 hK61 N64 hN64 I62 hI62
  refine nmz (fun z65 hz65 => ?_)
  replace h := h z65 hz65
  obtain ⟨hk66, h⟩ := h
  refine wm_putFR C fqX5_40 hnm rfl hk66 rfl rfl dX5_init_67 ?_
  refine nmR (fun R67 hR67 => ?_)
  replace h := h R67 hR67
  refine wm_aload_n C rfl dX5_init_70 ?_
  obtain ⟨b68, hr69, h⟩ := h
  refine wm_getR C fqX5_11 hk66 hr69 dX5_init_71 ?_
  refine wm_iconst C 0 dX5_init_74 ?_ (by decide)
  refine wm_new C nqX5_9 (Nat.le_of_ble_eq_true rfl) (Nat.le_of_ble_eq_true rfl) dX5_init_75 ?_
  refine nmKIR (fun K70 hK70 I71 hI71 R72 hR72 => ?_)
  replace h := h K70 hK70 I71 hI71 R72 hR72
  refine nmz (fun z74 hz74 => ?_)
  replace h := h z74 hz74
  refine wm_dup C rfl dX5_init_78 ?_
  refine wm_iconst C 0 dX5_init_79 ?_ (by decide)
  refine wm_iconst C (-1) dX5_init_80 ?_ (by decide)
  obtain ⟨φ75, hM76, h⟩ := h
  refine wm_cCAV2 C iqX5_44 hM76 ⟨Nat.le_refl _, Nat.le_refl _⟩ (Nat.le_of_ble_eq_true rfl) ⟨Nat.le_of_ble_eq_true rfl, Nat.le_of_ble_eq_true rfl⟩ dX5_init_81 (fun K80 N81 I78 R79 z82 hφ83 => ?_)
  replace h := h K80 N81 I78 R79 z82 hφ83
  obtain ⟨hk84, h⟩ := h
  obtain ⟨hi85, h⟩ := h
  obtain ⟨hk86, h⟩ := h
  refine wm_aast (t := 5) C (by decide) (by decide) hk84 hi85 hk86 dX5_init_84 ?_
  refine nmR (fun R87 hR87 => ?_)
  replace h := h R87 hR87
  refine wm_aload_n C rfl dX5_init_85 ?_
  refine wm_iconst C 1 dX5_init_86 ?_ (by decide)
  obtain ⟨hk88, h⟩ := h
  refine wm_putI C fqX5_47 hk88 dX5_init_87 ?_
  refine nmI (fun I89 hI89 => ?_)
  replace h := h I89 hI89
  exact wm_vret C hr (Nat.le_of_ble_eq_true rfl) (Nat.le_of_ble_eq_true rfl) ⟨rfl, rfl, h⟩ dX5_init_90
set_option maxRecDepth 100000 in
set_option maxHeartbeats 4000000 in
theorem sX5_init {l : Launch} {G : Gx} {d : Nat} {K N : TK} {I : TI} {R : TR} {L : TL} {sz : Nat} {φ : TK → TK → TI → TR → Nat → Prop} {a0 : Nat}
    (h : ∀ K1 : TK, K1 = va_up K sz 25 → ∀ N4 : TK, N4 = va_up N sz 13 → ∀ R3 : TR, R3 = va_up R sz (fun _ => none) → ∀ z5 : Nat, z5 = sz + 1 → K1 a0 = 16 ∧ ∀ R7 : TR, R7 = u2 R3 a0 0 (some sz) → ∀ K8 : TK, K8 = va_up K1 z5 24 → ∀ N11 : TK, N11 = va_up N4 z5 60 → ∀ R10 : TR, R10 = va_up R7 z5 (fun _ => none) → ∀ z12 : Nat, z12 = z5 + 1 → K8 a0 = 16 ∧ ∀ R14 : TR, R14 = u2 R10 a0 1 (some z5) → ∀ K15 : TK, K15 = va_up K8 z12 23 → ∀ N18 : TK, N18 = va_up N11 z12 100 → ∀ R17 : TR, R17 = va_up R14 z12 (fun _ => none) → ∀ z19 : Nat, z19 = z12 + 1 → K15 a0 = 16 ∧ ∀ R21 : TR, R21 = u2 R17 a0 2 (some z12) → ∀ K22 : TK, K22 = va_up K15 z19 25 → ∀ N25 : TK, N25 = va_up N18 z19 13 → ∀ R24 : TR, R24 = va_up R21 z19 (fun _ => none) → ∀ z26 : Nat, z26 = z19 + 1 → K22 a0 = 16 ∧ ∀ R28 : TR, R28 = u2 R24 a0 6 (some z19) → ∀ K29 : TK, K29 = va_up K22 z26 12 → ∀ I30 : TI, I30 = va_up I z26 (fun _ => 0) → ∀ R31 : TR, R31 = va_up R28 z26 (fun _ => none) → ∀ z33 : Nat, z33 = z26 + 1 → ∃ φ34 : TK → TK → TI → TR → Nat → Prop, MtAV l G yX1_init cX1_init 1 none d 6 1800 [.ref z26] K29 N25 I30 R31 L z33 φ34 ∧ ∀ (K39 : TK) (N40 : TK) (I37 : TI) (R38 : TR) (z41 : Nat), φ34 K39 N40 I37 R38 z41 → K39 a0 = 16 ∧ ∀ R44 : TR, R44 = u2 R38 a0 7 (some z26) → ∀ K45 : TK, K45 = va_up K39 z41 12 → ∀ I46 : TI, I46 = va_up I37 z41 (fun _ => 0) → ∀ R47 : TR, R47 = va_up R44 z41 (fun _ => none) → ∀ z49 : Nat, z49 = z41 + 1 → ∃ φ50 : TK → TK → TI → TR → Nat → Prop, MtAV l G yX1_init cX1_init 1 none d 6 1800 [.ref z41] K45 N40 I46 R47 L z49 φ50 ∧ ∀ (K55 : TK) (N56 : TK) (I53 : TI) (R54 : TR) (z57 : Nat), φ50 K55 N56 I53 R54 z57 → K55 a0 = 16 ∧ ∀ R60 : TR, R60 = u2 R54 a0 8 (some z41) → ∀ K61 : TK, K61 = va_up K55 z57 20 → ∀ N64 : TK, N64 = va_up N56 z57 13 → ∀ I62 : TI, I62 = va_up I53 z57 (fun _ => 0) → ∀ z65 : Nat, z65 = z57 + 1 → K61 a0 = 16 ∧ ∀ R67 : TR, R67 = u2 R60 a0 9 (some z57) → ∃ b68, R67 a0 0 = some b68 ∧ ∀ K70 : TK, K70 = va_up K61 z65 14 → ∀ I71 : TI, I71 = va_up I62 z65 (fun _ => 0) → ∀ R72 : TR, R72 = va_up R67 z65 (fun _ => none) → ∀ z74 : Nat, z74 = z65 + 1 → ∃ φ75 : TK → TK → TI → TR → Nat → Prop, MtAV l G yX3_init cX3_init 3 none d 8 2007 [.ref z65, .int 0, .int (-1)] K70 N64 I71 R72 L z74 φ75 ∧ ∀ (K80 : TK) (N81 : TK) (I78 : TI) (R79 : TR) (z82 : Nat), φ75 K80 N81 I78 R79 z82 → K80 b68 = 25 ∧ vp_in 0 (N81 b68) ∧ K80 z65 = 14 ∧ ∀ R87 : TR, R87 = u2 R79 b68 (Int32.toNatClampNeg 0) (some z65) → K80 a0 = 16 ∧ ∀ I89 : TI, I89 = u2 I78 a0 3 1 → φ K80 N81 I89 R87 z82) :
    MtAV l G yX5_init cX5_init 1 none (d + 1) 28 5825 [.ref a0] K N I R L sz φ :=
  MetM.of (own := RX5) (by decide) rfl (catR cat0) (Nat.le_of_ble_eq_true rfl) (fun p e s m args below meth c C hr hnm => vX5_init_0 C hr hnm h)
set_option maxRecDepth 100000 in
set_option maxHeartbeats 4000000 in
theorem vX5_library_0 {p : Program} {l : Launch} {e : Env} {s : State} {m : MethodId} {args : Array Value} {below : List Frame} {meth : Method} {c : Code} {G : Gx} {d : Nat} {K N : TK} {I : TI} {R : TR} {L : TL} {sz : Nat} {φ : Int32 → TK → TK → TI → TR → Nat → Prop} (C : Cx p s m args meth c (AM K sz) G RX5 cX5_library 3) (hr : meth.sig.returnType = (some .int)) {a0 : Nat} {x1 : Int32}
    (h : ∃ φ1 : Int32 → TI → Prop, MtI l G yX5_isName cX5_isName 1 (some .boolean) d [.int x1] K N I R L sz φ1 ∧ ∀ (r3 : Int32) (I4 : TI), φ1 r3 I4 → ((¬ r3 = 0 → K a0 = 16 ∧ (((I4 a0 3) ≤ 12 → ∃ b11, R a0 0 = some b11 ∧ ∀ K13 : TK, K13 = va_up K sz 14 → ∀ I14 : TI, I14 = va_up I4 sz (fun _ => 0) → ∀ R15 : TR, R15 = va_up R sz (fun _ => none) → ∀ z17 : Nat, z17 = sz + 1 → ∃ φ18 : TK → TK → TI → TR → Nat → Prop, MtAV l G yX3_init cX3_init 3 none d 8 2007 [.ref sz, .int (I4 a0 3), .int x1] K13 N I14 R15 L z17 φ18 ∧ ∀ (K23 : TK) (N24 : TK) (I21 : TI) (R22 : TR) (z25 : Nat), φ18 K23 N24 I21 R22 z25 → K23 b11 = 25 ∧ vp_in (I4 a0 3) (N24 b11) ∧ K23 sz = 14 ∧ ∀ R30 : TR, R30 = u2 R22 b11 (Int32.toNatClampNeg (I4 a0 3)) (some sz) → K23 a0 = 16 ∧ ∀ I32 : TI, I32 = u2 I21 a0 3 ((I21 a0 3) + 1) → φ (I4 a0 3) K23 N24 I32 R30 z25) ∧ (¬ (I4 a0 3) ≤ 12 → φ (-1) K N I4 R sz))) ∧ (r3 = 0 → φ (-4) K N I4 R sz))) :
    Wm p l e (rmD (d + 1) 9 2012) s m args below meth c (MQ below (PoM G K sz (pAI K N R L sz φ)) args s 9 2012 (AM K sz)) (AM K sz) G 3 0 [(0, .ref a0), (1, .int x1)] [] K N I R L sz 0 0 := by
  refine wm_iload_n C rfl dX5_library_0 ?_
  obtain ⟨φ1, hM2, h⟩ := h
  refine wm_cSI1 C sqX5_51 hM2 ⟨Nat.le_refl _, Nat.le_refl _⟩ (Nat.le_of_ble_eq_true rfl) ⟨Nat.le_of_ble_eq_true rfl, Nat.le_of_ble_eq_true rfl⟩ dX5_library_1 (fun r3 I4 hφ9 => ?_)
  replace h := h r3 I4 hφ9
  refine wm_if_ne C 10 dX5_library_4 (by decide) (fun q => ?_) (fun q => ?_)
  · replace h := h.1 q
    refine wm_aload_n C rfl dX5_library_10 ?_
    obtain ⟨hk10, h⟩ := h
    refine wm_getI C fqX5_47 hk10 dX5_library_11 ?_
    refine wm_bipush C 12 dX5_library_14 ?_ (by decide)
    refine wm_icmp_le C 21 dX5_library_16 (by decide) (fun q => ?_) (fun q => ?_)
    · replace h := h.1 q
      refine wm_aload_n C rfl dX5_library_21 ?_
      refine wm_getI C fqX5_47 hk10 dX5_library_22 ?_
      refine wm_istore_n C (by decide) dX5_library_25 ?_
      refine wm_aload_n C rfl dX5_library_26 ?_
      obtain ⟨b11, hr12, h⟩ := h
      refine wm_getR C fqX5_11 hk10 hr12 dX5_library_27 ?_
      refine wm_iload_n C rfl dX5_library_30 ?_
      refine wm_new C nqX5_9 (Nat.le_of_ble_eq_true rfl) (Nat.le_of_ble_eq_true rfl) dX5_library_31 ?_
      refine nmKIR (fun K13 hK13 I14 hI14 R15 hR15 => ?_)
      replace h := h K13 hK13 I14 hI14 R15 hR15
      refine nmz (fun z17 hz17 => ?_)
      replace h := h z17 hz17
      refine wm_dup C rfl dX5_library_34 ?_
      refine wm_iload_n C rfl dX5_library_35 ?_
      refine wm_iload_n C rfl dX5_library_36 ?_
      obtain ⟨φ18, hM19, h⟩ := h
      refine wm_cCAV2 C iqX5_44 hM19 ⟨Nat.le_refl _, Nat.le_refl _⟩ (Nat.le_of_ble_eq_true rfl) ⟨Nat.le_of_ble_eq_true rfl, Nat.le_of_ble_eq_true rfl⟩ dX5_library_37 (fun K23 N24 I21 R22 z25 hφ26 => ?_)
      replace h := h K23 N24 I21 R22 z25 hφ26
      obtain ⟨hk27, h⟩ := h
      obtain ⟨hi28, h⟩ := h
      obtain ⟨hk29, h⟩ := h
      refine wm_aast (t := 5) C (by decide) (by decide) hk27 hi28 hk29 dX5_library_40 ?_
      refine nmR (fun R30 hR30 => ?_)
      replace h := h R30 hR30
      refine wm_aload_n C rfl dX5_library_41 ?_
      refine wm_dup C rfl dX5_library_42 ?_
      obtain ⟨hk31, h⟩ := h
      refine wm_getI C fqX5_47 hk31 dX5_library_43 ?_
      refine wm_iconst C 1 dX5_library_46 ?_ (by decide)
      refine wm_iadd C dX5_library_47 ?_
      refine wm_putI C fqX5_47 hk31 dX5_library_48 ?_
      refine nmI (fun I32 hI32 => ?_)
      replace h := h I32 hI32
      refine wm_iload_n C rfl dX5_library_51 ?_
      exact wm_iret C hr rfl (Nat.le_of_ble_eq_true rfl) (Nat.le_of_ble_eq_true rfl) ⟨rfl, _, rfl, h⟩ dX5_library_52
    · replace h := h.2 q
      refine wm_iconst C (-1) dX5_library_19 ?_ (by decide)
      exact wm_iret C hr rfl (Nat.le_of_ble_eq_true rfl) (Nat.le_of_ble_eq_true rfl) ⟨rfl, _, rfl, h⟩ dX5_library_20
  · replace h := h.2 q
    refine wm_bipush C (-4) dX5_library_7 ?_ (by decide)
    exact wm_iret C hr rfl (Nat.le_of_ble_eq_true rfl) (Nat.le_of_ble_eq_true rfl) ⟨rfl, _, rfl, h⟩ dX5_library_9
set_option maxRecDepth 100000 in
set_option maxHeartbeats 4000000 in
theorem sX5_library {l : Launch} {G : Gx} {d : Nat} {K N : TK} {I : TI} {R : TR} {L : TL} {sz : Nat} {φ : Int32 → TK → TK → TI → TR → Nat → Prop} {a0 : Nat} {x1 : Int32}
    (h : ∃ φ1 : Int32 → TI → Prop, MtI l G yX5_isName cX5_isName 1 (some .boolean) d [.int x1] K N I R L sz φ1 ∧ ∀ (r3 : Int32) (I4 : TI), φ1 r3 I4 → ((¬ r3 = 0 → K a0 = 16 ∧ (((I4 a0 3) ≤ 12 → ∃ b11, R a0 0 = some b11 ∧ ∀ K13 : TK, K13 = va_up K sz 14 → ∀ I14 : TI, I14 = va_up I4 sz (fun _ => 0) → ∀ R15 : TR, R15 = va_up R sz (fun _ => none) → ∀ z17 : Nat, z17 = sz + 1 → ∃ φ18 : TK → TK → TI → TR → Nat → Prop, MtAV l G yX3_init cX3_init 3 none d 8 2007 [.ref sz, .int (I4 a0 3), .int x1] K13 N I14 R15 L z17 φ18 ∧ ∀ (K23 : TK) (N24 : TK) (I21 : TI) (R22 : TR) (z25 : Nat), φ18 K23 N24 I21 R22 z25 → K23 b11 = 25 ∧ vp_in (I4 a0 3) (N24 b11) ∧ K23 sz = 14 ∧ ∀ R30 : TR, R30 = u2 R22 b11 (Int32.toNatClampNeg (I4 a0 3)) (some sz) → K23 a0 = 16 ∧ ∀ I32 : TI, I32 = u2 I21 a0 3 ((I21 a0 3) + 1) → φ (I4 a0 3) K23 N24 I32 R30 z25) ∧ (¬ (I4 a0 3) ≤ 12 → φ (-1) K N I4 R sz))) ∧ (r3 = 0 → φ (-4) K N I4 R sz))) :
    MtAI l G yX5_library cX5_library 3 (some .int) (d + 1) 9 2012 [.ref a0, .int x1] K N I R L sz φ :=
  MetM.of (own := RX5) (by decide) rfl (catR (catI cat0)) (Nat.le_of_ble_eq_true rfl) (fun p e s m args below meth c C hr hnm => vX5_library_0 C hr h)
set_option maxRecDepth 100000 in
set_option maxHeartbeats 4000000 in
theorem vX5_word_0 {p : Program} {l : Launch} {e : Env} {s : State} {m : MethodId} {args : Array Value} {below : List Frame} {meth : Method} {c : Code} {G : Gx} {d : Nat} {K N : TK} {I : TI} {R : TR} {L : TL} {sz : Nat} {φ : Int32 → TI → Prop} (C : Cx p s m args meth c (AM K sz) G RX5 cX5_word 4) (hr : meth.sig.returnType = (some .int)) {a0 : Nat} {x1 : Int32} {x2 : Int32}
    (h : K a0 = 16 ∧ ∃ φ2 : Option Nat → TI → Prop, MtR l G yX5_textNumbered cX5_textNumbered 2 (some (.object "CopyReplace$Text")) d [.ref a0, .int x1] K N I R L sz φ2 ∧ ∀ (r4 : Option Nat) (I5 : TI), φ2 r4 I5 → ((r4 = none → φ (-2) I5) ∧ (∀ b11 : Nat, r4 = some b11 → ∃ φ12 : Int32 → TI → Prop, MtI l G yX5_isPlain cX5_isPlain 1 (some .boolean) d [.int x2] K N I5 R L sz φ12 ∧ ∀ (r14 : Int32) (I15 : TI), φ12 r14 I15 → ((¬ r14 = 0 → K b11 = 14 ∧ ∃ φ22 : Int32 → TI → Prop, MtI l G yX3_append cX3_append 2 (some .boolean) d [.ref b11, .int x2] K N I15 R L sz φ22 ∧ ∀ (r24 : Int32) (I25 : TI), φ22 r24 I25 → ((r24 = 0 → φ (-1) I25) ∧ (¬ r24 = 0 → φ (I25 b11 4) I25))) ∧ (r14 = 0 → φ (-4) I15))))) :
    WI p l e s m args below meth c G (d + 1) φ K N R L sz 4 0 [(0, .ref a0), (1, .int x1), (2, .int x2)] I := by
  refine wm_aload_n C rfl dX5_word_0 ?_
  refine wm_iload_n C rfl dX5_word_1 ?_
  obtain ⟨hk1, h⟩ := h
  obtain ⟨φ2, hM3, h⟩ := h
  refine wm_cVR1 C vqX5_55 hM3 hk1 ⟨Nat.le_refl _, Nat.le_refl _⟩ (Nat.le_of_ble_eq_true rfl) ⟨Nat.le_of_ble_eq_true rfl, Nat.le_of_ble_eq_true rfl⟩ dX5_word_2 (fun r4 I5 hφ10 => ?_)
  replace h := h r4 I5 hφ10
  refine wm_astoreQ_n C (by decide) dX5_word_5 ?_
  refine wm_aloadQ_n C rfl dX5_word_6 ?_
  rcases r4 with _ | b11
  · replace h := h.1 rfl
    refine wm_ifnonnullN C dX5_word_7 ?_
    refine wm_bipush C (-2) dX5_word_10 ?_ (by decide)
    exact wm_iret C hr rfl (Nat.le_of_ble_eq_true rfl) (Nat.le_of_ble_eq_true rfl) ⟨rfl, rfl, rfl, rfl, rfl, _, rfl, h⟩ dX5_word_12
  · replace h := h.2 b11 rfl
    refine wm_ifnonnull C 13 dX5_word_7 ?_ (by decide)
    refine wm_iload_n C rfl dX5_word_13 ?_
    obtain ⟨φ12, hM13, h⟩ := h
    refine wm_cSI1 C sqX5_59 hM13 ⟨Nat.le_refl _, Nat.le_refl _⟩ (Nat.le_of_ble_eq_true rfl) ⟨Nat.le_of_ble_eq_true rfl, Nat.le_of_ble_eq_true rfl⟩ dX5_word_14 (fun r14 I15 hφ20 => ?_)
    replace h := h r14 I15 hφ20
    refine wm_if_ne C 23 dX5_word_17 (by decide) (fun q => ?_) (fun q => ?_)
    · replace h := h.1 q
      refine wm_aload_n C rfl dX5_word_23 ?_
      refine wm_iload_n C rfl dX5_word_24 ?_
      obtain ⟨hk21, h⟩ := h
      obtain ⟨φ22, hM23, h⟩ := h
      refine wm_cVI1 C vqX5_62 hM23 hk21 ⟨Nat.le_refl _, Nat.le_refl _⟩ (Nat.le_of_ble_eq_true rfl) ⟨Nat.le_of_ble_eq_true rfl, Nat.le_of_ble_eq_true rfl⟩ dX5_word_25 (fun r24 I25 hφ30 => ?_)
      replace h := h r24 I25 hφ30
      refine wm_if_eq C 38 dX5_word_28 (by decide) (fun q => ?_) (fun q => ?_)
      · replace h := h.1 q
        refine wm_iconst C (-1) dX5_word_38 ?_ (by decide)
        exact wm_iret C hr rfl (Nat.le_of_ble_eq_true rfl) (Nat.le_of_ble_eq_true rfl) ⟨rfl, rfl, rfl, rfl, rfl, _, rfl, h⟩ dX5_word_39
      · replace h := h.2 q
        refine wm_aload_n C rfl dX5_word_31 ?_
        refine wm_getI C fqX5_65 hk21 dX5_word_32 ?_
        refine wm_goto C 39 dX5_word_35 ?_ (by decide)
        exact wm_iret C hr rfl (Nat.le_of_ble_eq_true rfl) (Nat.le_of_ble_eq_true rfl) ⟨rfl, rfl, rfl, rfl, rfl, _, rfl, h⟩ dX5_word_39
    · replace h := h.2 q
      refine wm_bipush C (-4) dX5_word_20 ?_ (by decide)
      exact wm_iret C hr rfl (Nat.le_of_ble_eq_true rfl) (Nat.le_of_ble_eq_true rfl) ⟨rfl, rfl, rfl, rfl, rfl, _, rfl, h⟩ dX5_word_22
set_option maxRecDepth 100000 in
set_option maxHeartbeats 4000000 in
theorem sX5_word {l : Launch} {G : Gx} {d : Nat} {K N : TK} {I : TI} {R : TR} {L : TL} {sz : Nat} {φ : Int32 → TI → Prop} {a0 : Nat} {x1 : Int32} {x2 : Int32}
    (h : K a0 = 16 ∧ ∃ φ2 : Option Nat → TI → Prop, MtR l G yX5_textNumbered cX5_textNumbered 2 (some (.object "CopyReplace$Text")) d [.ref a0, .int x1] K N I R L sz φ2 ∧ ∀ (r4 : Option Nat) (I5 : TI), φ2 r4 I5 → ((r4 = none → φ (-2) I5) ∧ (∀ b11 : Nat, r4 = some b11 → ∃ φ12 : Int32 → TI → Prop, MtI l G yX5_isPlain cX5_isPlain 1 (some .boolean) d [.int x2] K N I5 R L sz φ12 ∧ ∀ (r14 : Int32) (I15 : TI), φ12 r14 I15 → ((¬ r14 = 0 → K b11 = 14 ∧ ∃ φ22 : Int32 → TI → Prop, MtI l G yX3_append cX3_append 2 (some .boolean) d [.ref b11, .int x2] K N I15 R L sz φ22 ∧ ∀ (r24 : Int32) (I25 : TI), φ22 r24 I25 → ((r24 = 0 → φ (-1) I25) ∧ (¬ r24 = 0 → φ (I25 b11 4) I25))) ∧ (r14 = 0 → φ (-4) I15))))) :
    MtI l G yX5_word cX5_word 4 (some .int) (d + 1) [.ref a0, .int x1, .int x2] K N I R L sz φ :=
  MetM.of (own := RX5) (by decide) rfl (catR (catI (catI cat0))) (Nat.le_of_ble_eq_true rfl) (fun p e s m args below meth c C hr hnm => vX5_word_0 C hr h)
set_option maxRecDepth 100000 in
set_option maxHeartbeats 4000000 in
theorem vX5_copy_0 {p : Program} {l : Launch} {e : Env} {s : State} {m : MethodId} {args : Array Value} {below : List Frame} {meth : Method} {c : Code} {G : Gx} {d : Nat} {K N : TK} {I : TI} {R : TR} {L : TL} {sz : Nat} {φ : Int32 → TK → TK → TI → TR → Nat → Prop} (C : Cx p s m args meth c (AM K sz) G RX5 cX5_copy 5) (hr : meth.sig.returnType = (some .int)) {a0 : Nat} {x1 : Int32} {x2 : Int32} {x3 : Int32}
    (h : K a0 = 16 ∧ ∃ φ2 : Option Nat → TI → Prop, MtR l G yX5_textNumbered cX5_textNumbered 2 (some (.object "CopyReplace$Text")) d [.ref a0, .int x1] K N I R L sz φ2 ∧ ∀ (r4 : Option Nat) (I5 : TI), φ2 r4 I5 → ((r4 = none → φ (-2) K N I5 R sz) ∧ (∀ b11 : Nat, r4 = some b11 → ∃ φ12 : Int32 → TI → Prop, MtI l G yX5_isName cX5_isName 1 (some .boolean) d [.int x2] K N I5 R L sz φ12 ∧ ∀ (r14 : Int32) (I15 : TI), φ12 r14 I15 → ((¬ r14 = 0 → ∃ φ21 : Int32 → TK → TK → TI → TR → Nat → Prop, MtAI l G yX5_addStatement cX5_addStatement 6 (some .int) d 2 14 [.ref a0, .ref b11, .int 1, .int x2, .int x3] K N I15 R L sz φ21 ∧ ∀ (r23 : Int32) (K26 : TK) (N27 : TK) (I24 : TI) (R25 : TR) (z28 : Nat), φ21 r23 K26 N27 I24 R25 z28 → φ r23 K26 N27 I24 R25 z28) ∧ (r14 = 0 → φ (-4) K N I15 R sz))))) :
    Wm p l e (rmD (d + 1) 2 14) s m args below meth c (MQ below (PoM G K sz (pAI K N R L sz φ)) args s 2 14 (AM K sz)) (AM K sz) G 5 0 [(0, .ref a0), (1, .int x1), (2, .int x2), (3, .int x3)] [] K N I R L sz 0 0 := by
  refine wm_aload_n C rfl dX5_copy_0 ?_
  refine wm_iload_n C rfl dX5_copy_1 ?_
  obtain ⟨hk1, h⟩ := h
  obtain ⟨φ2, hM3, h⟩ := h
  refine wm_cVR1 C vqX5_55 hM3 hk1 ⟨Nat.le_refl _, Nat.le_refl _⟩ (Nat.le_of_ble_eq_true rfl) ⟨Nat.le_of_ble_eq_true rfl, Nat.le_of_ble_eq_true rfl⟩ dX5_copy_2 (fun r4 I5 hφ10 => ?_)
  replace h := h r4 I5 hφ10
  refine wm_astoreQ C (by decide) dX5_copy_5 ?_
  refine wm_aloadQ C rfl dX5_copy_7 ?_
  rcases r4 with _ | b11
  · replace h := h.1 rfl
    refine wm_ifnonnullN C dX5_copy_9 ?_
    refine wm_bipush C (-2) dX5_copy_12 ?_ (by decide)
    exact wm_iret C hr rfl (Nat.le_of_ble_eq_true rfl) (Nat.le_of_ble_eq_true rfl) ⟨rfl, _, rfl, h⟩ dX5_copy_14
  · replace h := h.2 b11 rfl
    refine wm_ifnonnull C 15 dX5_copy_9 ?_ (by decide)
    refine wm_iload_n C rfl dX5_copy_15 ?_
    obtain ⟨φ12, hM13, h⟩ := h
    refine wm_cSI1 C sqX5_51 hM13 ⟨Nat.le_refl _, Nat.le_refl _⟩ (Nat.le_of_ble_eq_true rfl) ⟨Nat.le_of_ble_eq_true rfl, Nat.le_of_ble_eq_true rfl⟩ dX5_copy_16 (fun r14 I15 hφ20 => ?_)
    replace h := h r14 I15 hφ20
    refine wm_if_ne C 25 dX5_copy_19 (by decide) (fun q => ?_) (fun q => ?_)
    · replace h := h.1 q
      refine wm_aload_n C rfl dX5_copy_25 ?_
      refine wm_aload C rfl dX5_copy_26 ?_
      refine wm_iconst C 1 dX5_copy_28 ?_ (by decide)
      refine wm_iload_n C rfl dX5_copy_29 ?_
      refine wm_iload_n C rfl dX5_copy_30 ?_
      obtain ⟨φ21, hM22, h⟩ := h
      refine wm_cVAI4 C vqX5_68 hM22 hk1 ⟨Nat.le_refl _, Nat.le_refl _⟩ (Nat.le_of_ble_eq_true rfl) ⟨Nat.le_of_ble_eq_true rfl, Nat.le_of_ble_eq_true rfl⟩ dX5_copy_31 (fun r23 K26 N27 I24 R25 z28 hφ29 => ?_)
      replace h := h r23 K26 N27 I24 R25 z28 hφ29
      exact wm_iret C hr rfl (Nat.le_of_ble_eq_true rfl) (Nat.le_of_ble_eq_true rfl) ⟨rfl, _, rfl, h⟩ dX5_copy_34
    · replace h := h.2 q
      refine wm_bipush C (-4) dX5_copy_22 ?_ (by decide)
      exact wm_iret C hr rfl (Nat.le_of_ble_eq_true rfl) (Nat.le_of_ble_eq_true rfl) ⟨rfl, _, rfl, h⟩ dX5_copy_24
set_option maxRecDepth 100000 in
set_option maxHeartbeats 4000000 in
theorem sX5_copy {l : Launch} {G : Gx} {d : Nat} {K N : TK} {I : TI} {R : TR} {L : TL} {sz : Nat} {φ : Int32 → TK → TK → TI → TR → Nat → Prop} {a0 : Nat} {x1 : Int32} {x2 : Int32} {x3 : Int32}
    (h : K a0 = 16 ∧ ∃ φ2 : Option Nat → TI → Prop, MtR l G yX5_textNumbered cX5_textNumbered 2 (some (.object "CopyReplace$Text")) d [.ref a0, .int x1] K N I R L sz φ2 ∧ ∀ (r4 : Option Nat) (I5 : TI), φ2 r4 I5 → ((r4 = none → φ (-2) K N I5 R sz) ∧ (∀ b11 : Nat, r4 = some b11 → ∃ φ12 : Int32 → TI → Prop, MtI l G yX5_isName cX5_isName 1 (some .boolean) d [.int x2] K N I5 R L sz φ12 ∧ ∀ (r14 : Int32) (I15 : TI), φ12 r14 I15 → ((¬ r14 = 0 → ∃ φ21 : Int32 → TK → TK → TI → TR → Nat → Prop, MtAI l G yX5_addStatement cX5_addStatement 6 (some .int) d 2 14 [.ref a0, .ref b11, .int 1, .int x2, .int x3] K N I15 R L sz φ21 ∧ ∀ (r23 : Int32) (K26 : TK) (N27 : TK) (I24 : TI) (R25 : TR) (z28 : Nat), φ21 r23 K26 N27 I24 R25 z28 → φ r23 K26 N27 I24 R25 z28) ∧ (r14 = 0 → φ (-4) K N I15 R sz))))) :
    MtAI l G yX5_copy cX5_copy 5 (some .int) (d + 1) 2 14 [.ref a0, .int x1, .int x2, .int x3] K N I R L sz φ :=
  MetM.of (own := RX5) (by decide) rfl (catR (catI (catI (catI cat0)))) (Nat.le_of_ble_eq_true rfl) (fun p e s m args below meth c C hr hnm => vX5_copy_0 C hr h)
set_option maxRecDepth 100000 in
set_option maxHeartbeats 4000000 in
theorem vX5_replace_0 {p : Program} {l : Launch} {e : Env} {s : State} {m : MethodId} {args : Array Value} {below : List Frame} {meth : Method} {c : Code} {G : Gx} {d : Nat} {K N : TK} {I : TI} {R : TR} {L : TL} {sz : Nat} {φ : Int32 → TK → TK → TI → TR → Nat → Prop} (C : Cx p s m args meth c (AM K sz) G RX5 cX5_replace 3) (hr : meth.sig.returnType = (some .int)) {a0 : Nat} {x1 : Int32}
    (h : K a0 = 16 ∧ ∃ φ2 : Option Nat → TI → Prop, MtR l G yX5_textNumbered cX5_textNumbered 2 (some (.object "CopyReplace$Text")) d [.ref a0, .int x1] K N I R L sz φ2 ∧ ∀ (r4 : Option Nat) (I5 : TI), φ2 r4 I5 → ((r4 = none → φ (-2) K N I5 R sz) ∧ (∀ b11 : Nat, r4 = some b11 → ∃ φ12 : Int32 → TK → TK → TI → TR → Nat → Prop, MtAI l G yX5_addStatement cX5_addStatement 6 (some .int) d 2 14 [.ref a0, .ref b11, .int 0, .int (-1), .int 0] K N I5 R L sz φ12 ∧ ∀ (r14 : Int32) (K17 : TK) (N18 : TK) (I15 : TI) (R16 : TR) (z19 : Nat), φ12 r14 K17 N18 I15 R16 z19 → φ r14 K17 N18 I15 R16 z19))) :
    Wm p l e (rmD (d + 1) 2 14) s m args below meth c (MQ below (PoM G K sz (pAI K N R L sz φ)) args s 2 14 (AM K sz)) (AM K sz) G 3 0 [(0, .ref a0), (1, .int x1)] [] K N I R L sz 0 0 := by
  refine wm_aload_n C rfl dX5_replace_0 ?_
  refine wm_iload_n C rfl dX5_replace_1 ?_
  obtain ⟨hk1, h⟩ := h
  obtain ⟨φ2, hM3, h⟩ := h
  refine wm_cVR1 C vqX5_55 hM3 hk1 ⟨Nat.le_refl _, Nat.le_refl _⟩ (Nat.le_of_ble_eq_true rfl) ⟨Nat.le_of_ble_eq_true rfl, Nat.le_of_ble_eq_true rfl⟩ dX5_replace_2 (fun r4 I5 hφ10 => ?_)
  replace h := h r4 I5 hφ10
  refine wm_astoreQ_n C (by decide) dX5_replace_5 ?_
  refine wm_aloadQ_n C rfl dX5_replace_6 ?_
  rcases r4 with _ | b11
  · replace h := h.1 rfl
    refine wm_ifnonnullN C dX5_replace_7 ?_
    refine wm_bipush C (-2) dX5_replace_10 ?_ (by decide)
    refine wm_goto C 23 dX5_replace_12 ?_ (by decide)
    exact wm_iret C hr rfl (Nat.le_of_ble_eq_true rfl) (Nat.le_of_ble_eq_true rfl) ⟨rfl, _, rfl, h⟩ dX5_replace_23
  · replace h := h.2 b11 rfl
    refine wm_ifnonnull C 15 dX5_replace_7 ?_ (by decide)
    refine wm_aload_n C rfl dX5_replace_15 ?_
    refine wm_aload_n C rfl dX5_replace_16 ?_
    refine wm_iconst C 0 dX5_replace_17 ?_ (by decide)
    refine wm_iconst C (-1) dX5_replace_18 ?_ (by decide)
    refine wm_iconst C 0 dX5_replace_19 ?_ (by decide)
    obtain ⟨φ12, hM13, h⟩ := h
    refine wm_cVAI4 C vqX5_68 hM13 hk1 ⟨Nat.le_refl _, Nat.le_refl _⟩ (Nat.le_of_ble_eq_true rfl) ⟨Nat.le_of_ble_eq_true rfl, Nat.le_of_ble_eq_true rfl⟩ dX5_replace_20 (fun r14 K17 N18 I15 R16 z19 hφ20 => ?_)
    replace h := h r14 K17 N18 I15 R16 z19 hφ20
    exact wm_iret C hr rfl (Nat.le_of_ble_eq_true rfl) (Nat.le_of_ble_eq_true rfl) ⟨rfl, _, rfl, h⟩ dX5_replace_23
set_option maxRecDepth 100000 in
set_option maxHeartbeats 4000000 in
theorem sX5_replace {l : Launch} {G : Gx} {d : Nat} {K N : TK} {I : TI} {R : TR} {L : TL} {sz : Nat} {φ : Int32 → TK → TK → TI → TR → Nat → Prop} {a0 : Nat} {x1 : Int32}
    (h : K a0 = 16 ∧ ∃ φ2 : Option Nat → TI → Prop, MtR l G yX5_textNumbered cX5_textNumbered 2 (some (.object "CopyReplace$Text")) d [.ref a0, .int x1] K N I R L sz φ2 ∧ ∀ (r4 : Option Nat) (I5 : TI), φ2 r4 I5 → ((r4 = none → φ (-2) K N I5 R sz) ∧ (∀ b11 : Nat, r4 = some b11 → ∃ φ12 : Int32 → TK → TK → TI → TR → Nat → Prop, MtAI l G yX5_addStatement cX5_addStatement 6 (some .int) d 2 14 [.ref a0, .ref b11, .int 0, .int (-1), .int 0] K N I5 R L sz φ12 ∧ ∀ (r14 : Int32) (K17 : TK) (N18 : TK) (I15 : TI) (R16 : TR) (z19 : Nat), φ12 r14 K17 N18 I15 R16 z19 → φ r14 K17 N18 I15 R16 z19))) :
    MtAI l G yX5_replace cX5_replace 3 (some .int) (d + 1) 2 14 [.ref a0, .int x1] K N I R L sz φ :=
  MetM.of (own := RX5) (by decide) rfl (catR (catI cat0)) (Nat.le_of_ble_eq_true rfl) (fun p e s m args below meth c C hr hnm => vX5_replace_0 C hr h)
set_option maxRecDepth 100000 in
set_option maxHeartbeats 4000000 in
theorem vX5_off_0 {p : Program} {l : Launch} {e : Env} {s : State} {m : MethodId} {args : Array Value} {below : List Frame} {meth : Method} {c : Code} {G : Gx} {d : Nat} {K N : TK} {I : TI} {R : TR} {L : TL} {sz : Nat} {φ : Int32 → TI → Prop} (C : Cx p s m args meth c (AM K sz) G RX5 cX5_off 3) (hr : meth.sig.returnType = (some .int)) {a0 : Nat} {x1 : Int32}
    (h : K a0 = 16 ∧ ∃ φ2 : Option Nat → TI → Prop, MtR l G yX5_textNumbered cX5_textNumbered 2 (some (.object "CopyReplace$Text")) d [.ref a0, .int x1] K N I R L sz φ2 ∧ ∀ (r4 : Option Nat) (I5 : TI), φ2 r4 I5 → ((r4 = none → φ (-2) I5) ∧ (∀ b11 : Nat, r4 = some b11 → K b11 = 14 ∧ ∃ φ13 : Int32 → TI → Prop, MtI l G yX3_append cX3_append 2 (some .boolean) d [.ref b11, .int (-2)] K N I5 R L sz φ13 ∧ ∀ (r15 : Int32) (I16 : TI), φ13 r15 I16 → ((r15 = 0 → φ (-1) I16) ∧ (¬ r15 = 0 → φ (I16 b11 4) I16))))) :
    WI p l e s m args below meth c G (d + 1) φ K N R L sz 3 0 [(0, .ref a0), (1, .int x1)] I := by
  refine wm_aload_n C rfl dX5_off_0 ?_
  refine wm_iload_n C rfl dX5_off_1 ?_
  obtain ⟨hk1, h⟩ := h
  obtain ⟨φ2, hM3, h⟩ := h
  refine wm_cVR1 C vqX5_55 hM3 hk1 ⟨Nat.le_refl _, Nat.le_refl _⟩ (Nat.le_of_ble_eq_true rfl) ⟨Nat.le_of_ble_eq_true rfl, Nat.le_of_ble_eq_true rfl⟩ dX5_off_2 (fun r4 I5 hφ10 => ?_)
  replace h := h r4 I5 hφ10
  refine wm_astoreQ_n C (by decide) dX5_off_5 ?_
  refine wm_aloadQ_n C rfl dX5_off_6 ?_
  rcases r4 with _ | b11
  · replace h := h.1 rfl
    refine wm_ifnonnullN C dX5_off_7 ?_
    refine wm_bipush C (-2) dX5_off_10 ?_ (by decide)
    exact wm_iret C hr rfl (Nat.le_of_ble_eq_true rfl) (Nat.le_of_ble_eq_true rfl) ⟨rfl, rfl, rfl, rfl, rfl, _, rfl, h⟩ dX5_off_12
  · replace h := h.2 b11 rfl
    refine wm_ifnonnull C 13 dX5_off_7 ?_ (by decide)
    refine wm_aload_n C rfl dX5_off_13 ?_
    refine wm_bipush C (-2) dX5_off_14 ?_ (by decide)
    obtain ⟨hk12, h⟩ := h
    obtain ⟨φ13, hM14, h⟩ := h
    refine wm_cVI1 C vqX5_62 hM14 hk12 ⟨Nat.le_refl _, Nat.le_refl _⟩ (Nat.le_of_ble_eq_true rfl) ⟨Nat.le_of_ble_eq_true rfl, Nat.le_of_ble_eq_true rfl⟩ dX5_off_16 (fun r15 I16 hφ21 => ?_)
    replace h := h r15 I16 hφ21
    refine wm_if_eq C 29 dX5_off_19 (by decide) (fun q => ?_) (fun q => ?_)
    · replace h := h.1 q
      refine wm_iconst C (-1) dX5_off_29 ?_ (by decide)
      exact wm_iret C hr rfl (Nat.le_of_ble_eq_true rfl) (Nat.le_of_ble_eq_true rfl) ⟨rfl, rfl, rfl, rfl, rfl, _, rfl, h⟩ dX5_off_30
    · replace h := h.2 q
      refine wm_aload_n C rfl dX5_off_22 ?_
      refine wm_getI C fqX5_65 hk12 dX5_off_23 ?_
      refine wm_goto C 30 dX5_off_26 ?_ (by decide)
      exact wm_iret C hr rfl (Nat.le_of_ble_eq_true rfl) (Nat.le_of_ble_eq_true rfl) ⟨rfl, rfl, rfl, rfl, rfl, _, rfl, h⟩ dX5_off_30
set_option maxRecDepth 100000 in
set_option maxHeartbeats 4000000 in
theorem sX5_off {l : Launch} {G : Gx} {d : Nat} {K N : TK} {I : TI} {R : TR} {L : TL} {sz : Nat} {φ : Int32 → TI → Prop} {a0 : Nat} {x1 : Int32}
    (h : K a0 = 16 ∧ ∃ φ2 : Option Nat → TI → Prop, MtR l G yX5_textNumbered cX5_textNumbered 2 (some (.object "CopyReplace$Text")) d [.ref a0, .int x1] K N I R L sz φ2 ∧ ∀ (r4 : Option Nat) (I5 : TI), φ2 r4 I5 → ((r4 = none → φ (-2) I5) ∧ (∀ b11 : Nat, r4 = some b11 → K b11 = 14 ∧ ∃ φ13 : Int32 → TI → Prop, MtI l G yX3_append cX3_append 2 (some .boolean) d [.ref b11, .int (-2)] K N I5 R L sz φ13 ∧ ∀ (r15 : Int32) (I16 : TI), φ13 r15 I16 → ((r15 = 0 → φ (-1) I16) ∧ (¬ r15 = 0 → φ (I16 b11 4) I16))))) :
    MtI l G yX5_off cX5_off 3 (some .int) (d + 1) [.ref a0, .int x1] K N I R L sz φ :=
  MetM.of (own := RX5) (by decide) rfl (catR (catI cat0)) (Nat.le_of_ble_eq_true rfl) (fun p e s m args below meth c C hr hnm => vX5_off_0 C hr h)
set_option maxRecDepth 100000 in
set_option maxHeartbeats 4000000 in
theorem vX5_phrase_0 {p : Program} {l : Launch} {e : Env} {s : State} {m : MethodId} {args : Array Value} {below : List Frame} {meth : Method} {c : Code} {G : Gx} {d : Nat} {K N : TK} {I : TI} {R : TR} {L : TL} {sz : Nat} {φ : Int32 → TK → TK → TI → TR → Nat → Prop} (C : Cx p s m args meth c (AM K sz) G RX5 cX5_phrase 6) (hr : meth.sig.returnType = (some .int)) {a0 : Nat} {x1 : Int32} {x2 : Int32} {x3 : Int32}
    (h : K a0 = 16 ∧ ∃ φ2 : Option Nat → TI → Prop, MtR l G yX5_statementNumbered cX5_statementNumbered 2 (some (.object "CopyReplace$Statement")) d [.ref a0, .int x1] K N I R L sz φ2 ∧ ∀ (r4 : Option Nat) (I5 : TI), φ2 r4 I5 → ((r4 = none → φ (-2) K N I5 R sz) ∧ (∀ b11 : Nat, r4 = some b11 → ((x2 < 0 → φ (-4) K N I5 R sz) ∧ (¬ x2 < 0 → ((2 < x2 → φ (-4) K N I5 R sz) ∧ (¬ 2 < x2 → ∃ φ12 : Int32 → TI → Prop, MtI l G yX5_isWord cX5_isWord 3 (some .boolean) d [.int x3] K N I5 R L sz φ12 ∧ ∀ (r14 : Int32) (I15 : TI), φ12 r14 I15 → ((¬ r14 = 0 → ((100 ≤ (I15 a0 5) → φ (-1) K N I15 R sz) ∧ (¬ 100 ≤ (I15 a0 5) → K b11 = 13 ∧ (((I15 b11 5) < 8 → ∀ K22 : TK, K22 = va_up K sz 11 → ∀ I23 : TI, I23 = va_up I15 sz (fun _ => 0) → ∀ R24 : TR, R24 = va_up R sz (fun _ => none) → ∀ z26 : Nat, z26 = sz + 1 → K22 a0 = 16 ∧ ∃ φ28 : TK → TK → TI → TR → Nat → Prop, MtAV l G yX0_init cX0_init 3 none d 4 24 [.ref sz, .int ((I23 a0 5) + 1), .int x2] K22 N I23 R24 L z26 φ28 ∧ ∀ (K33 : TK) (N34 : TK) (I31 : TI) (R32 : TR) (z35 : Nat), φ28 K33 N34 I31 R32 z35 → K33 sz = 11 ∧ ∃ b38, R32 sz 2 = some b38 ∧ K33 b38 = 15 ∧ ∃ φ41 : TI → Prop, MtV l G yX4_append cX4_append 2 none d [.ref b38, .int x3] K33 N34 I31 R32 L z35 φ41 ∧ ∀ (I44 : TI), φ41 I44 → K33 b11 = 13 ∧ ∃ φ51 : TI → TR → Prop, MtW l G yX2_append cX2_append 2 none d [.ref b11, .ref sz] K33 N34 I44 R32 L z35 φ51 ∧ ∀ (I54 : TI) (R55 : TR), φ51 I54 R55 → K33 a0 = 16 ∧ ∃ b61, R55 a0 2 = some b61 ∧ K33 b61 = 23 ∧ vp_in (I54 a0 5) (N34 b61) ∧ ∀ R65 : TR, R65 = u2 R55 b61 (Int32.toNatClampNeg (I54 a0 5)) (some sz) → ∀ I66 : TI, I66 = u2 I54 a0 5 ((I54 a0 5) + 1) → φ (I66 sz 0) K33 N34 I66 R65 z35) ∧ (¬ (I15 b11 5) < 8 → φ (-1) K N I15 R sz))))) ∧ (r14 = 0 → φ (-4) K N I15 R sz))))))))) :
    Wm p l e (rmD (d + 1) 5 28) s m args below meth c (MQ below (PoM G K sz (pAI K N R L sz φ)) args s 5 28 (AM K sz)) (AM K sz) G 6 0 [(0, .ref a0), (1, .int x1), (2, .int x2), (3, .int x3)] [] K N I R L sz 0 0 := by
  refine wm_aload_n C rfl dX5_phrase_0 ?_
  refine wm_iload_n C rfl dX5_phrase_1 ?_
  obtain ⟨hk1, h⟩ := h
  obtain ⟨φ2, hM3, h⟩ := h
  refine wm_cVR1 C vqX5_72 hM3 hk1 ⟨Nat.le_refl _, Nat.le_refl _⟩ (Nat.le_of_ble_eq_true rfl) ⟨Nat.le_of_ble_eq_true rfl, Nat.le_of_ble_eq_true rfl⟩ dX5_phrase_2 (fun r4 I5 hφ10 => ?_)
  replace h := h r4 I5 hφ10
  refine wm_astoreQ C (by decide) dX5_phrase_5 ?_
  refine wm_aloadQ C rfl dX5_phrase_7 ?_
  rcases r4 with _ | b11
  · replace h := h.1 rfl
    refine wm_ifnonnullN C dX5_phrase_9 ?_
    refine wm_bipush C (-2) dX5_phrase_12 ?_ (by decide)
    exact wm_iret C hr rfl (Nat.le_of_ble_eq_true rfl) (Nat.le_of_ble_eq_true rfl) ⟨rfl, _, rfl, h⟩ dX5_phrase_14
  · replace h := h.2 b11 rfl
    refine wm_ifnonnull C 15 dX5_phrase_9 ?_ (by decide)
    refine wm_iload_n C rfl dX5_phrase_15 ?_
    refine wm_if_lt C 31 dX5_phrase_16 (by decide) (fun q => ?_) (fun q => ?_)
    · replace h := h.1 q
      refine wm_bipush C (-4) dX5_phrase_31 ?_ (by decide)
      exact wm_iret C hr rfl (Nat.le_of_ble_eq_true rfl) (Nat.le_of_ble_eq_true rfl) ⟨rfl, _, rfl, h⟩ dX5_phrase_33
    · replace h := h.2 q
      refine wm_iload_n C rfl dX5_phrase_19 ?_
      refine wm_iconst C 2 dX5_phrase_20 ?_ (by decide)
      refine wm_icmp_gt C 31 dX5_phrase_21 (by decide) (fun q => ?_) (fun q => ?_)
      · replace h := h.1 q
        refine wm_bipush C (-4) dX5_phrase_31 ?_ (by decide)
        exact wm_iret C hr rfl (Nat.le_of_ble_eq_true rfl) (Nat.le_of_ble_eq_true rfl) ⟨rfl, _, rfl, h⟩ dX5_phrase_33
      · replace h := h.2 q
        refine wm_iload_n C rfl dX5_phrase_24 ?_
        obtain ⟨φ12, hM13, h⟩ := h
        refine wm_cSI1 C sqX5_76 hM13 ⟨Nat.le_refl _, Nat.le_refl _⟩ (Nat.le_of_ble_eq_true rfl) ⟨Nat.le_of_ble_eq_true rfl, Nat.le_of_ble_eq_true rfl⟩ dX5_phrase_25 (fun r14 I15 hφ20 => ?_)
        replace h := h r14 I15 hφ20
        refine wm_if_ne C 34 dX5_phrase_28 (by decide) (fun q => ?_) (fun q => ?_)
        · replace h := h.1 q
          refine wm_aload_n C rfl dX5_phrase_34 ?_
          refine wm_getI C fqX5_79 hk1 dX5_phrase_35 ?_
          refine wm_bipush C 100 dX5_phrase_38 ?_ (by decide)
          refine wm_icmp_ge C 53 dX5_phrase_40 (by decide) (fun q => ?_) (fun q => ?_)
          · replace h := h.1 q
            refine wm_iconst C (-1) dX5_phrase_53 ?_ (by decide)
            exact wm_iret C hr rfl (Nat.le_of_ble_eq_true rfl) (Nat.le_of_ble_eq_true rfl) ⟨rfl, _, rfl, h⟩ dX5_phrase_54
          · replace h := h.2 q
            refine wm_aload C rfl dX5_phrase_43 ?_
            obtain ⟨hk21, h⟩ := h
            refine wm_getI C fqX5_82 hk21 dX5_phrase_45 ?_
            refine wm_bipush C 8 dX5_phrase_48 ?_ (by decide)
            refine wm_icmp_lt C 55 dX5_phrase_50 (by decide) (fun q => ?_) (fun q => ?_)
            · replace h := h.1 q
              refine wm_new C nqX5_21 (Nat.le_of_ble_eq_true rfl) (Nat.le_of_ble_eq_true rfl) dX5_phrase_55 ?_
              refine nmKIR (fun K22 hK22 I23 hI23 R24 hR24 => ?_)
              replace h := h K22 hK22 I23 hI23 R24 hR24
              refine nmz (fun z26 hz26 => ?_)
              replace h := h z26 hz26
              refine wm_dup C rfl dX5_phrase_58 ?_
              refine wm_aload_n C rfl dX5_phrase_59 ?_
              obtain ⟨hk27, h⟩ := h
              refine wm_getI C fqX5_79 hk27 dX5_phrase_60 ?_
              refine wm_iconst C 1 dX5_phrase_63 ?_ (by decide)
              refine wm_iadd C dX5_phrase_64 ?_
              refine wm_iload_n C rfl dX5_phrase_65 ?_
              obtain ⟨φ28, hM29, h⟩ := h
              refine wm_cCAV2 C iqX5_83 hM29 ⟨Nat.le_refl _, Nat.le_refl _⟩ (Nat.le_of_ble_eq_true rfl) ⟨Nat.le_of_ble_eq_true rfl, Nat.le_of_ble_eq_true rfl⟩ dX5_phrase_66 (fun K33 N34 I31 R32 z35 hφ36 => ?_)
              replace h := h K33 N34 I31 R32 z35 hφ36
              refine wm_astore C (by decide) dX5_phrase_69 ?_
              refine wm_aload C rfl dX5_phrase_71 ?_
              obtain ⟨hk37, h⟩ := h
              obtain ⟨b38, hr39, h⟩ := h
              refine wm_getR C fqX5_84 hk37 hr39 dX5_phrase_73 ?_
              refine wm_iload_n C rfl dX5_phrase_76 ?_
              obtain ⟨hk40, h⟩ := h
              obtain ⟨φ41, hM42, h⟩ := h
              refine wm_cVV1 C vqX5_88 hM42 hk40 ⟨Nat.le_refl _, Nat.le_refl _⟩ (Nat.le_of_ble_eq_true rfl) ⟨Nat.le_of_ble_eq_true rfl, Nat.le_of_ble_eq_true rfl⟩ dX5_phrase_77 (fun I44 hφ49 => ?_)
              replace h := h I44 hφ49
              refine wm_aload C rfl dX5_phrase_80 ?_
              refine wm_aload C rfl dX5_phrase_82 ?_
              obtain ⟨hk50, h⟩ := h
              obtain ⟨φ51, hM52, h⟩ := h
              refine wm_cVW1 C vqX5_93 hM52 hk50 ⟨Nat.le_refl _, Nat.le_refl _⟩ (Nat.le_of_ble_eq_true rfl) ⟨Nat.le_of_ble_eq_true rfl, Nat.le_of_ble_eq_true rfl⟩ dX5_phrase_84 (fun I54 R55 hφ59 => ?_)
              replace h := h I54 R55 hφ59
              refine wm_aload_n C rfl dX5_phrase_87 ?_
              obtain ⟨hk60, h⟩ := h
              obtain ⟨b61, hr62, h⟩ := h
              refine wm_getR C fqX5_23 hk60 hr62 dX5_phrase_88 ?_
              refine wm_aload_n C rfl dX5_phrase_91 ?_
              refine wm_getI C fqX5_79 hk60 dX5_phrase_92 ?_
              refine wm_aload C rfl dX5_phrase_95 ?_
              obtain ⟨hk63, h⟩ := h
              obtain ⟨hi64, h⟩ := h
              refine wm_aast (t := 3) C (by decide) (by decide) hk63 hi64 hk37 dX5_phrase_97 ?_
              refine nmR (fun R65 hR65 => ?_)
              replace h := h R65 hR65
              refine wm_aload_n C rfl dX5_phrase_98 ?_
              refine wm_dup C rfl dX5_phrase_99 ?_
              refine wm_getI C fqX5_79 hk60 dX5_phrase_100 ?_
              refine wm_iconst C 1 dX5_phrase_103 ?_ (by decide)
              refine wm_iadd C dX5_phrase_104 ?_
              refine wm_putI C fqX5_79 hk60 dX5_phrase_105 ?_
              refine nmI (fun I66 hI66 => ?_)
              replace h := h I66 hI66
              refine wm_aload C rfl dX5_phrase_108 ?_
              refine wm_getI C fqX5_96 hk37 dX5_phrase_110 ?_
              exact wm_iret C hr rfl (Nat.le_of_ble_eq_true rfl) (Nat.le_of_ble_eq_true rfl) ⟨rfl, _, rfl, h⟩ dX5_phrase_113
            · replace h := h.2 q
              refine wm_iconst C (-1) dX5_phrase_53 ?_ (by decide)
              exact wm_iret C hr rfl (Nat.le_of_ble_eq_true rfl) (Nat.le_of_ble_eq_true rfl) ⟨rfl, _, rfl, h⟩ dX5_phrase_54
        · replace h := h.2 q
          refine wm_bipush C (-4) dX5_phrase_31 ?_ (by decide)
          exact wm_iret C hr rfl (Nat.le_of_ble_eq_true rfl) (Nat.le_of_ble_eq_true rfl) ⟨rfl, _, rfl, h⟩ dX5_phrase_33
set_option maxRecDepth 100000 in
set_option maxHeartbeats 4000000 in
theorem sX5_phrase {l : Launch} {G : Gx} {d : Nat} {K N : TK} {I : TI} {R : TR} {L : TL} {sz : Nat} {φ : Int32 → TK → TK → TI → TR → Nat → Prop} {a0 : Nat} {x1 : Int32} {x2 : Int32} {x3 : Int32}
    (h : K a0 = 16 ∧ ∃ φ2 : Option Nat → TI → Prop, MtR l G yX5_statementNumbered cX5_statementNumbered 2 (some (.object "CopyReplace$Statement")) d [.ref a0, .int x1] K N I R L sz φ2 ∧ ∀ (r4 : Option Nat) (I5 : TI), φ2 r4 I5 → ((r4 = none → φ (-2) K N I5 R sz) ∧ (∀ b11 : Nat, r4 = some b11 → ((x2 < 0 → φ (-4) K N I5 R sz) ∧ (¬ x2 < 0 → ((2 < x2 → φ (-4) K N I5 R sz) ∧ (¬ 2 < x2 → ∃ φ12 : Int32 → TI → Prop, MtI l G yX5_isWord cX5_isWord 3 (some .boolean) d [.int x3] K N I5 R L sz φ12 ∧ ∀ (r14 : Int32) (I15 : TI), φ12 r14 I15 → ((¬ r14 = 0 → ((100 ≤ (I15 a0 5) → φ (-1) K N I15 R sz) ∧ (¬ 100 ≤ (I15 a0 5) → K b11 = 13 ∧ (((I15 b11 5) < 8 → ∀ K22 : TK, K22 = va_up K sz 11 → ∀ I23 : TI, I23 = va_up I15 sz (fun _ => 0) → ∀ R24 : TR, R24 = va_up R sz (fun _ => none) → ∀ z26 : Nat, z26 = sz + 1 → K22 a0 = 16 ∧ ∃ φ28 : TK → TK → TI → TR → Nat → Prop, MtAV l G yX0_init cX0_init 3 none d 4 24 [.ref sz, .int ((I23 a0 5) + 1), .int x2] K22 N I23 R24 L z26 φ28 ∧ ∀ (K33 : TK) (N34 : TK) (I31 : TI) (R32 : TR) (z35 : Nat), φ28 K33 N34 I31 R32 z35 → K33 sz = 11 ∧ ∃ b38, R32 sz 2 = some b38 ∧ K33 b38 = 15 ∧ ∃ φ41 : TI → Prop, MtV l G yX4_append cX4_append 2 none d [.ref b38, .int x3] K33 N34 I31 R32 L z35 φ41 ∧ ∀ (I44 : TI), φ41 I44 → K33 b11 = 13 ∧ ∃ φ51 : TI → TR → Prop, MtW l G yX2_append cX2_append 2 none d [.ref b11, .ref sz] K33 N34 I44 R32 L z35 φ51 ∧ ∀ (I54 : TI) (R55 : TR), φ51 I54 R55 → K33 a0 = 16 ∧ ∃ b61, R55 a0 2 = some b61 ∧ K33 b61 = 23 ∧ vp_in (I54 a0 5) (N34 b61) ∧ ∀ R65 : TR, R65 = u2 R55 b61 (Int32.toNatClampNeg (I54 a0 5)) (some sz) → ∀ I66 : TI, I66 = u2 I54 a0 5 ((I54 a0 5) + 1) → φ (I66 sz 0) K33 N34 I66 R65 z35) ∧ (¬ (I15 b11 5) < 8 → φ (-1) K N I15 R sz))))) ∧ (r14 = 0 → φ (-4) K N I15 R sz))))))))) :
    MtAI l G yX5_phrase cX5_phrase 6 (some .int) (d + 1) 5 28 [.ref a0, .int x1, .int x2, .int x3] K N I R L sz φ :=
  MetM.of (own := RX5) (by decide) rfl (catR (catI (catI (catI cat0)))) (Nat.le_of_ble_eq_true rfl) (fun p e s m args below meth c C hr hnm => vX5_phrase_0 C hr h)
set_option maxRecDepth 100000 in
set_option maxHeartbeats 4000000 in
theorem vX5_from_0 {p : Program} {l : Launch} {e : Env} {s : State} {m : MethodId} {args : Array Value} {below : List Frame} {meth : Method} {c : Code} {G : Gx} {d : Nat} {K N : TK} {I : TI} {R : TR} {L : TL} {sz : Nat} {φ : Int32 → TI → Prop} (C : Cx p s m args meth c (AM K sz) G RX5 cX5_from 4) (hr : meth.sig.returnType = (some .int)) {a0 : Nat} {x1 : Int32} {x2 : Int32}
    (h : K a0 = 16 ∧ ∃ φ2 : Option Nat → TI → Prop, MtR l G yX5_phraseNumbered cX5_phraseNumbered 2 (some (.object "CopyReplace$Phrase")) d [.ref a0, .int x1] K N I R L sz φ2 ∧ ∀ (r4 : Option Nat) (I5 : TI), φ2 r4 I5 → ((r4 = none → φ (-2) I5) ∧ (∀ b11 : Nat, r4 = some b11 → ∃ φ12 : Int32 → TI → Prop, MtI l G yX5_isPlain cX5_isPlain 1 (some .boolean) d [.int x2] K N I5 R L sz φ12 ∧ ∀ (r14 : Int32) (I15 : TI), φ12 r14 I15 → ((¬ r14 = 0 → K b11 = 11 ∧ ((¬ (I15 b11 1) = 0 → φ (-1) I15) ∧ ((I15 b11 1) = 0 → ∃ b22, R b11 2 = some b22 ∧ K b22 = 15 ∧ ∃ φ25 : Int32 → TI → Prop, MtI l G yX4_isFull cX4_isFull 1 (some .boolean) d [.ref b22] K N I15 R L sz φ25 ∧ ∀ (r27 : Int32) (I28 : TI), φ25 r27 I28 → ((r27 = 0 → ((x2 ≤ 0 → φ (I28 b22 1) I28) ∧ (¬ x2 ≤ 0 → ∃ φ34 : TI → Prop, MtV l G yX4_append cX4_append 2 none d [.ref b22, .int x2] K N I28 R L sz φ34 ∧ ∀ (I37 : TI), φ34 I37 → φ (I37 b22 1) I37))) ∧ (¬ r27 = 0 → φ (-1) I28))))) ∧ (r14 = 0 → φ (-4) I15))))) :
    WI p l e s m args below meth c G (d + 1) φ K N R L sz 4 0 [(0, .ref a0), (1, .int x1), (2, .int x2)] I := by
  refine wm_aload_n C rfl dX5_from_0 ?_
  refine wm_iload_n C rfl dX5_from_1 ?_
  obtain ⟨hk1, h⟩ := h
  obtain ⟨φ2, hM3, h⟩ := h
  refine wm_cVR1 C vqX5_99 hM3 hk1 ⟨Nat.le_refl _, Nat.le_refl _⟩ (Nat.le_of_ble_eq_true rfl) ⟨Nat.le_of_ble_eq_true rfl, Nat.le_of_ble_eq_true rfl⟩ dX5_from_2 (fun r4 I5 hφ10 => ?_)
  replace h := h r4 I5 hφ10
  refine wm_astoreQ_n C (by decide) dX5_from_5 ?_
  refine wm_aloadQ_n C rfl dX5_from_6 ?_
  rcases r4 with _ | b11
  · replace h := h.1 rfl
    refine wm_ifnonnullN C dX5_from_7 ?_
    refine wm_bipush C (-2) dX5_from_10 ?_ (by decide)
    exact wm_iret C hr rfl (Nat.le_of_ble_eq_true rfl) (Nat.le_of_ble_eq_true rfl) ⟨rfl, rfl, rfl, rfl, rfl, _, rfl, h⟩ dX5_from_12
  · replace h := h.2 b11 rfl
    refine wm_ifnonnull C 13 dX5_from_7 ?_ (by decide)
    refine wm_iload_n C rfl dX5_from_13 ?_
    obtain ⟨φ12, hM13, h⟩ := h
    refine wm_cSI1 C sqX5_59 hM13 ⟨Nat.le_refl _, Nat.le_refl _⟩ (Nat.le_of_ble_eq_true rfl) ⟨Nat.le_of_ble_eq_true rfl, Nat.le_of_ble_eq_true rfl⟩ dX5_from_14 (fun r14 I15 hφ20 => ?_)
    replace h := h r14 I15 hφ20
    refine wm_if_ne C 23 dX5_from_17 (by decide) (fun q => ?_) (fun q => ?_)
    · replace h := h.1 q
      refine wm_aload_n C rfl dX5_from_23 ?_
      obtain ⟨hk21, h⟩ := h
      refine wm_getI C fqX5_103 hk21 dX5_from_24 ?_
      refine wm_if_ne C 40 dX5_from_27 (by decide) (fun q => ?_) (fun q => ?_)
      · replace h := h.1 q
        refine wm_iconst C (-1) dX5_from_40 ?_ (by decide)
        exact wm_iret C hr rfl (Nat.le_of_ble_eq_true rfl) (Nat.le_of_ble_eq_true rfl) ⟨rfl, rfl, rfl, rfl, rfl, _, rfl, h⟩ dX5_from_41
      · replace h := h.2 q
        refine wm_aload_n C rfl dX5_from_30 ?_
        obtain ⟨b22, hr23, h⟩ := h
        refine wm_getR C fqX5_84 hk21 hr23 dX5_from_31 ?_
        obtain ⟨hk24, h⟩ := h
        obtain ⟨φ25, hM26, h⟩ := h
        refine wm_cVI0 C vqX5_106 hM26 hk24 ⟨Nat.le_refl _, Nat.le_refl _⟩ (Nat.le_of_ble_eq_true rfl) ⟨Nat.le_of_ble_eq_true rfl, Nat.le_of_ble_eq_true rfl⟩ dX5_from_34 (fun r27 I28 hφ33 => ?_)
        replace h := h r27 I28 hφ33
        refine wm_if_eq C 42 dX5_from_37 (by decide) (fun q => ?_) (fun q => ?_)
        · replace h := h.1 q
          refine wm_iload_n C rfl dX5_from_42 ?_
          refine wm_if_le C 54 dX5_from_43 (by decide) (fun q => ?_) (fun q => ?_)
          · replace h := h.1 q
            refine wm_aload_n C rfl dX5_from_54 ?_
            refine wm_getR C fqX5_84 hk21 hr23 dX5_from_55 ?_
            refine wm_getI C fqX5_110 hk24 dX5_from_58 ?_
            exact wm_iret C hr rfl (Nat.le_of_ble_eq_true rfl) (Nat.le_of_ble_eq_true rfl) ⟨rfl, rfl, rfl, rfl, rfl, _, rfl, h⟩ dX5_from_61
          · replace h := h.2 q
            refine wm_aload_n C rfl dX5_from_46 ?_
            refine wm_getR C fqX5_84 hk21 hr23 dX5_from_47 ?_
            refine wm_iload_n C rfl dX5_from_50 ?_
            obtain ⟨φ34, hM35, h⟩ := h
            refine wm_cVV1 C vqX5_88 hM35 hk24 ⟨Nat.le_refl _, Nat.le_refl _⟩ (Nat.le_of_ble_eq_true rfl) ⟨Nat.le_of_ble_eq_true rfl, Nat.le_of_ble_eq_true rfl⟩ dX5_from_51 (fun I37 hφ42 => ?_)
            replace h := h I37 hφ42
            refine wm_aload_n C rfl dX5_from_54 ?_
            refine wm_getR C fqX5_84 hk21 hr23 dX5_from_55 ?_
            refine wm_getI C fqX5_110 hk24 dX5_from_58 ?_
            exact wm_iret C hr rfl (Nat.le_of_ble_eq_true rfl) (Nat.le_of_ble_eq_true rfl) ⟨rfl, rfl, rfl, rfl, rfl, _, rfl, h⟩ dX5_from_61
        · replace h := h.2 q
          refine wm_iconst C (-1) dX5_from_40 ?_ (by decide)
          exact wm_iret C hr rfl (Nat.le_of_ble_eq_true rfl) (Nat.le_of_ble_eq_true rfl) ⟨rfl, rfl, rfl, rfl, rfl, _, rfl, h⟩ dX5_from_41
    · replace h := h.2 q
      refine wm_bipush C (-4) dX5_from_20 ?_ (by decide)
      exact wm_iret C hr rfl (Nat.le_of_ble_eq_true rfl) (Nat.le_of_ble_eq_true rfl) ⟨rfl, rfl, rfl, rfl, rfl, _, rfl, h⟩ dX5_from_22
set_option maxRecDepth 100000 in
set_option maxHeartbeats 4000000 in
theorem sX5_from {l : Launch} {G : Gx} {d : Nat} {K N : TK} {I : TI} {R : TR} {L : TL} {sz : Nat} {φ : Int32 → TI → Prop} {a0 : Nat} {x1 : Int32} {x2 : Int32}
    (h : K a0 = 16 ∧ ∃ φ2 : Option Nat → TI → Prop, MtR l G yX5_phraseNumbered cX5_phraseNumbered 2 (some (.object "CopyReplace$Phrase")) d [.ref a0, .int x1] K N I R L sz φ2 ∧ ∀ (r4 : Option Nat) (I5 : TI), φ2 r4 I5 → ((r4 = none → φ (-2) I5) ∧ (∀ b11 : Nat, r4 = some b11 → ∃ φ12 : Int32 → TI → Prop, MtI l G yX5_isPlain cX5_isPlain 1 (some .boolean) d [.int x2] K N I5 R L sz φ12 ∧ ∀ (r14 : Int32) (I15 : TI), φ12 r14 I15 → ((¬ r14 = 0 → K b11 = 11 ∧ ((¬ (I15 b11 1) = 0 → φ (-1) I15) ∧ ((I15 b11 1) = 0 → ∃ b22, R b11 2 = some b22 ∧ K b22 = 15 ∧ ∃ φ25 : Int32 → TI → Prop, MtI l G yX4_isFull cX4_isFull 1 (some .boolean) d [.ref b22] K N I15 R L sz φ25 ∧ ∀ (r27 : Int32) (I28 : TI), φ25 r27 I28 → ((r27 = 0 → ((x2 ≤ 0 → φ (I28 b22 1) I28) ∧ (¬ x2 ≤ 0 → ∃ φ34 : TI → Prop, MtV l G yX4_append cX4_append 2 none d [.ref b22, .int x2] K N I28 R L sz φ34 ∧ ∀ (I37 : TI), φ34 I37 → φ (I37 b22 1) I37))) ∧ (¬ r27 = 0 → φ (-1) I28))))) ∧ (r14 = 0 → φ (-4) I15))))) :
    MtI l G yX5_from cX5_from 4 (some .int) (d + 1) [.ref a0, .int x1, .int x2] K N I R L sz φ :=
  MetM.of (own := RX5) (by decide) rfl (catR (catI (catI cat0))) (Nat.le_of_ble_eq_true rfl) (fun p e s m args below meth c C hr hnm => vX5_from_0 C hr h)
set_option maxRecDepth 100000 in
set_option maxHeartbeats 4000000 in
theorem vX5_to_0 {p : Program} {l : Launch} {e : Env} {s : State} {m : MethodId} {args : Array Value} {below : List Frame} {meth : Method} {c : Code} {G : Gx} {d : Nat} {K N : TK} {I : TI} {R : TR} {L : TL} {sz : Nat} {φ : Int32 → TI → Prop} (C : Cx p s m args meth c (AM K sz) G RX5 cX5_to 5) (hr : meth.sig.returnType = (some .int)) {a0 : Nat} {x1 : Int32} {x2 : Int32}
    (h : K a0 = 16 ∧ ∃ φ2 : Option Nat → TI → Prop, MtR l G yX5_phraseNumbered cX5_phraseNumbered 2 (some (.object "CopyReplace$Phrase")) d [.ref a0, .int x1] K N I R L sz φ2 ∧ ∀ (r4 : Option Nat) (I5 : TI), φ2 r4 I5 → ((r4 = none → φ (-2) I5) ∧ (∀ b11 : Nat, r4 = some b11 → K b11 = 11 ∧ (((I5 b11 1) = 0 → ∃ φ13 : Int32 → TI → Prop, MtI l G yX5_isPlain cX5_isPlain 1 (some .boolean) d [.int x2] K N I5 R L sz φ13 ∧ ∀ (r15 : Int32) (I16 : TI), φ13 r15 I16 → ((¬ r15 = 0 → ∃ b22, R b11 3 = some b22 ∧ K b22 = 15 ∧ ∃ φ25 : Int32 → TI → Prop, MtI l G yX4_isFull cX4_isFull 1 (some .boolean) d [.ref b22] K N I16 R L sz φ25 ∧ ∀ (r27 : Int32) (I28 : TI), φ25 r27 I28 → ((¬ r27 = 0 → φ (-1) I28) ∧ (r27 = 0 → ∃ φ34 : TI → Prop, MtV l G yX4_append cX4_append 2 none d [.ref b22, .int x2] K N I28 R L sz φ34 ∧ ∀ (I37 : TI), φ34 I37 → φ (I37 b22 1) I37))) ∧ (r15 = 0 → φ (-4) I16))) ∧ (¬ (I5 b11 1) = 0 → ∃ φ43 : Int32 → TI → Prop, MtI l G yX5_isWord cX5_isWord 3 (some .boolean) d [.int x2] K N I5 R L sz φ43 ∧ ∀ (r45 : Int32) (I46 : TI), φ43 r45 I46 → ((¬ r45 = 0 → ∃ b52, R b11 3 = some b52 ∧ K b52 = 15 ∧ ∃ φ55 : Int32 → TI → Prop, MtI l G yX4_isFull cX4_isFull 1 (some .boolean) d [.ref b52] K N I46 R L sz φ55 ∧ ∀ (r57 : Int32) (I58 : TI), φ55 r57 I58 → ((¬ r57 = 0 → φ (-1) I58) ∧ (r57 = 0 → (((I58 b52 1) ≤ 0 → ∃ φ64 : TI → Prop, MtV l G yX4_append cX4_append 2 none d [.ref b52, .int x2] K N I58 R L sz φ64 ∧ ∀ (I67 : TI), φ64 I67 → φ (I67 b52 1) I67) ∧ (¬ (I58 b52 1) ≤ 0 → φ (-1) I58))))) ∧ (r45 = 0 → φ (-4) I46))))))) :
    WI p l e s m args below meth c G (d + 1) φ K N R L sz 5 0 [(0, .ref a0), (1, .int x1), (2, .int x2)] I := by
  refine wm_aload_n C rfl dX5_to_0 ?_
  refine wm_iload_n C rfl dX5_to_1 ?_
  obtain ⟨hk1, h⟩ := h
  obtain ⟨φ2, hM3, h⟩ := h
  refine wm_cVR1 C vqX5_99 hM3 hk1 ⟨Nat.le_refl _, Nat.le_refl _⟩ (Nat.le_of_ble_eq_true rfl) ⟨Nat.le_of_ble_eq_true rfl, Nat.le_of_ble_eq_true rfl⟩ dX5_to_2 (fun r4 I5 hφ10 => ?_)
  replace h := h r4 I5 hφ10
  refine wm_astoreQ_n C (by decide) dX5_to_5 ?_
  refine wm_aloadQ_n C rfl dX5_to_6 ?_
  rcases r4 with _ | b11
  · replace h := h.1 rfl
    refine wm_ifnonnullN C dX5_to_7 ?_
    refine wm_bipush C (-2) dX5_to_10 ?_ (by decide)
    exact wm_iret C hr rfl (Nat.le_of_ble_eq_true rfl) (Nat.le_of_ble_eq_true rfl) ⟨rfl, rfl, rfl, rfl, rfl, _, rfl, h⟩ dX5_to_12
  · replace h := h.2 b11 rfl
    refine wm_ifnonnull C 13 dX5_to_7 ?_ (by decide)
    refine wm_aload_n C rfl dX5_to_13 ?_
    obtain ⟨hk12, h⟩ := h
    refine wm_getI C fqX5_103 hk12 dX5_to_14 ?_
    refine wm_if_eq C 24 dX5_to_17 (by decide) (fun q => ?_) (fun q => ?_)
    · replace h := h.1 q
      refine wm_iconst C 0 dX5_to_24 ?_ (by decide)
      refine wm_istore C (by decide) dX5_to_25 ?_
      refine wm_iload C rfl dX5_to_27 ?_
      refine wm_if_eq C 42 dX5_to_29 (by decide) (fun _ => ?_) (fun q => absurd q (by decide))
      refine wm_iload_n C rfl dX5_to_42 ?_
      obtain ⟨φ13, hM14, h⟩ := h
      refine wm_cSI1 C sqX5_59 hM14 ⟨Nat.le_refl _, Nat.le_refl _⟩ (Nat.le_of_ble_eq_true rfl) ⟨Nat.le_of_ble_eq_true rfl, Nat.le_of_ble_eq_true rfl⟩ dX5_to_43 (fun r15 I16 hφ21 => ?_)
      replace h := h r15 I16 hφ21
      refine wm_if_ne C 52 dX5_to_46 (by decide) (fun q => ?_) (fun q => ?_)
      · replace h := h.1 q
        refine wm_aload_n C rfl dX5_to_52 ?_
        obtain ⟨b22, hr23, h⟩ := h
        refine wm_getR C fqX5_111 hk12 hr23 dX5_to_53 ?_
        obtain ⟨hk24, h⟩ := h
        obtain ⟨φ25, hM26, h⟩ := h
        refine wm_cVI0 C vqX5_106 hM26 hk24 ⟨Nat.le_refl _, Nat.le_refl _⟩ (Nat.le_of_ble_eq_true rfl) ⟨Nat.le_of_ble_eq_true rfl, Nat.le_of_ble_eq_true rfl⟩ dX5_to_56 (fun r27 I28 hφ33 => ?_)
        replace h := h r27 I28 hφ33
        refine wm_if_ne C 77 dX5_to_59 (by decide) (fun q => ?_) (fun q => ?_)
        · replace h := h.1 q
          refine wm_iconst C (-1) dX5_to_77 ?_ (by decide)
          exact wm_iret C hr rfl (Nat.le_of_ble_eq_true rfl) (Nat.le_of_ble_eq_true rfl) ⟨rfl, rfl, rfl, rfl, rfl, _, rfl, h⟩ dX5_to_78
        · replace h := h.2 q
          refine wm_iload C rfl dX5_to_62 ?_
          refine wm_if_eq C 79 dX5_to_64 (by decide) (fun _ => ?_) (fun q => absurd q (by decide))
          refine wm_aload_n C rfl dX5_to_79 ?_
          refine wm_getR C fqX5_111 hk12 hr23 dX5_to_80 ?_
          refine wm_iload_n C rfl dX5_to_83 ?_
          obtain ⟨φ34, hM35, h⟩ := h
          refine wm_cVV1 C vqX5_88 hM35 hk24 ⟨Nat.le_refl _, Nat.le_refl _⟩ (Nat.le_of_ble_eq_true rfl) ⟨Nat.le_of_ble_eq_true rfl, Nat.le_of_ble_eq_true rfl⟩ dX5_to_84 (fun I37 hφ42 => ?_)
          replace h := h I37 hφ42
          refine wm_aload_n C rfl dX5_to_87 ?_
          refine wm_getR C fqX5_111 hk12 hr23 dX5_to_88 ?_
          refine wm_getI C fqX5_110 hk24 dX5_to_91 ?_
          exact wm_iret C hr rfl (Nat.le_of_ble_eq_true rfl) (Nat.le_of_ble_eq_true rfl) ⟨rfl, rfl, rfl, rfl, rfl, _, rfl, h⟩ dX5_to_94
      · replace h := h.2 q
        refine wm_bipush C (-4) dX5_to_49 ?_ (by decide)
        exact wm_iret C hr rfl (Nat.le_of_ble_eq_true rfl) (Nat.le_of_ble_eq_true rfl) ⟨rfl, rfl, rfl, rfl, rfl, _, rfl, h⟩ dX5_to_51
    · replace h := h.2 q
      refine wm_iconst C 1 dX5_to_20 ?_ (by decide)
      refine wm_goto C 25 dX5_to_21 ?_ (by decide)
      refine wm_istore C (by decide) dX5_to_25 ?_
      refine wm_iload C rfl dX5_to_27 ?_
      refine wm_if_eq C 42 dX5_to_29 (by decide) (fun q => absurd q (by decide)) (fun _ => ?_)
      refine wm_iload_n C rfl dX5_to_32 ?_
      obtain ⟨φ43, hM44, h⟩ := h
      refine wm_cSI1 C sqX5_76 hM44 ⟨Nat.le_refl _, Nat.le_refl _⟩ (Nat.le_of_ble_eq_true rfl) ⟨Nat.le_of_ble_eq_true rfl, Nat.le_of_ble_eq_true rfl⟩ dX5_to_33 (fun r45 I46 hφ51 => ?_)
      replace h := h r45 I46 hφ51
      refine wm_if_ne C 52 dX5_to_36 (by decide) (fun q => ?_) (fun q => ?_)
      · replace h := h.1 q
        refine wm_aload_n C rfl dX5_to_52 ?_
        obtain ⟨b52, hr53, h⟩ := h
        refine wm_getR C fqX5_111 hk12 hr53 dX5_to_53 ?_
        obtain ⟨hk54, h⟩ := h
        obtain ⟨φ55, hM56, h⟩ := h
        refine wm_cVI0 C vqX5_106 hM56 hk54 ⟨Nat.le_refl _, Nat.le_refl _⟩ (Nat.le_of_ble_eq_true rfl) ⟨Nat.le_of_ble_eq_true rfl, Nat.le_of_ble_eq_true rfl⟩ dX5_to_56 (fun r57 I58 hφ63 => ?_)
        replace h := h r57 I58 hφ63
        refine wm_if_ne C 77 dX5_to_59 (by decide) (fun q => ?_) (fun q => ?_)
        · replace h := h.1 q
          refine wm_iconst C (-1) dX5_to_77 ?_ (by decide)
          exact wm_iret C hr rfl (Nat.le_of_ble_eq_true rfl) (Nat.le_of_ble_eq_true rfl) ⟨rfl, rfl, rfl, rfl, rfl, _, rfl, h⟩ dX5_to_78
        · replace h := h.2 q
          refine wm_iload C rfl dX5_to_62 ?_
          refine wm_if_eq C 79 dX5_to_64 (by decide) (fun q => absurd q (by decide)) (fun _ => ?_)
          refine wm_aload_n C rfl dX5_to_67 ?_
          refine wm_getR C fqX5_111 hk12 hr53 dX5_to_68 ?_
          refine wm_getI C fqX5_110 hk54 dX5_to_71 ?_
          refine wm_if_le C 79 dX5_to_74 (by decide) (fun q => ?_) (fun q => ?_)
          · replace h := h.1 q
            refine wm_aload_n C rfl dX5_to_79 ?_
            refine wm_getR C fqX5_111 hk12 hr53 dX5_to_80 ?_
            refine wm_iload_n C rfl dX5_to_83 ?_
            obtain ⟨φ64, hM65, h⟩ := h
            refine wm_cVV1 C vqX5_88 hM65 hk54 ⟨Nat.le_refl _, Nat.le_refl _⟩ (Nat.le_of_ble_eq_true rfl) ⟨Nat.le_of_ble_eq_true rfl, Nat.le_of_ble_eq_true rfl⟩ dX5_to_84 (fun I67 hφ72 => ?_)
            replace h := h I67 hφ72
            refine wm_aload_n C rfl dX5_to_87 ?_
            refine wm_getR C fqX5_111 hk12 hr53 dX5_to_88 ?_
            refine wm_getI C fqX5_110 hk54 dX5_to_91 ?_
            exact wm_iret C hr rfl (Nat.le_of_ble_eq_true rfl) (Nat.le_of_ble_eq_true rfl) ⟨rfl, rfl, rfl, rfl, rfl, _, rfl, h⟩ dX5_to_94
          · replace h := h.2 q
            refine wm_iconst C (-1) dX5_to_77 ?_ (by decide)
            exact wm_iret C hr rfl (Nat.le_of_ble_eq_true rfl) (Nat.le_of_ble_eq_true rfl) ⟨rfl, rfl, rfl, rfl, rfl, _, rfl, h⟩ dX5_to_78
      · replace h := h.2 q
        refine wm_goto C 49 dX5_to_39 ?_ (by decide)
        refine wm_bipush C (-4) dX5_to_49 ?_ (by decide)
        exact wm_iret C hr rfl (Nat.le_of_ble_eq_true rfl) (Nat.le_of_ble_eq_true rfl) ⟨rfl, rfl, rfl, rfl, rfl, _, rfl, h⟩ dX5_to_51
set_option maxRecDepth 100000 in
set_option maxHeartbeats 4000000 in
theorem sX5_to {l : Launch} {G : Gx} {d : Nat} {K N : TK} {I : TI} {R : TR} {L : TL} {sz : Nat} {φ : Int32 → TI → Prop} {a0 : Nat} {x1 : Int32} {x2 : Int32}
    (h : K a0 = 16 ∧ ∃ φ2 : Option Nat → TI → Prop, MtR l G yX5_phraseNumbered cX5_phraseNumbered 2 (some (.object "CopyReplace$Phrase")) d [.ref a0, .int x1] K N I R L sz φ2 ∧ ∀ (r4 : Option Nat) (I5 : TI), φ2 r4 I5 → ((r4 = none → φ (-2) I5) ∧ (∀ b11 : Nat, r4 = some b11 → K b11 = 11 ∧ (((I5 b11 1) = 0 → ∃ φ13 : Int32 → TI → Prop, MtI l G yX5_isPlain cX5_isPlain 1 (some .boolean) d [.int x2] K N I5 R L sz φ13 ∧ ∀ (r15 : Int32) (I16 : TI), φ13 r15 I16 → ((¬ r15 = 0 → ∃ b22, R b11 3 = some b22 ∧ K b22 = 15 ∧ ∃ φ25 : Int32 → TI → Prop, MtI l G yX4_isFull cX4_isFull 1 (some .boolean) d [.ref b22] K N I16 R L sz φ25 ∧ ∀ (r27 : Int32) (I28 : TI), φ25 r27 I28 → ((¬ r27 = 0 → φ (-1) I28) ∧ (r27 = 0 → ∃ φ34 : TI → Prop, MtV l G yX4_append cX4_append 2 none d [.ref b22, .int x2] K N I28 R L sz φ34 ∧ ∀ (I37 : TI), φ34 I37 → φ (I37 b22 1) I37))) ∧ (r15 = 0 → φ (-4) I16))) ∧ (¬ (I5 b11 1) = 0 → ∃ φ43 : Int32 → TI → Prop, MtI l G yX5_isWord cX5_isWord 3 (some .boolean) d [.int x2] K N I5 R L sz φ43 ∧ ∀ (r45 : Int32) (I46 : TI), φ43 r45 I46 → ((¬ r45 = 0 → ∃ b52, R b11 3 = some b52 ∧ K b52 = 15 ∧ ∃ φ55 : Int32 → TI → Prop, MtI l G yX4_isFull cX4_isFull 1 (some .boolean) d [.ref b52] K N I46 R L sz φ55 ∧ ∀ (r57 : Int32) (I58 : TI), φ55 r57 I58 → ((¬ r57 = 0 → φ (-1) I58) ∧ (r57 = 0 → (((I58 b52 1) ≤ 0 → ∃ φ64 : TI → Prop, MtV l G yX4_append cX4_append 2 none d [.ref b52, .int x2] K N I58 R L sz φ64 ∧ ∀ (I67 : TI), φ64 I67 → φ (I67 b52 1) I67) ∧ (¬ (I58 b52 1) ≤ 0 → φ (-1) I58))))) ∧ (r45 = 0 → φ (-4) I46))))))) :
    MtI l G yX5_to cX5_to 5 (some .int) (d + 1) [.ref a0, .int x1, .int x2] K N I R L sz φ :=
  MetM.of (own := RX5) (by decide) rfl (catR (catI (catI cat0))) (Nat.le_of_ble_eq_true rfl) (fun p e s m args below meth c C hr hnm => vX5_to_0 C hr h)
set_option maxRecDepth 100000 in
set_option maxHeartbeats 4000000 in
theorem vX5_run_0 {p : Program} {l : Launch} {e : Env} {s : State} {m : MethodId} {args : Array Value} {below : List Frame} {meth : Method} {c : Code} {G : Gx} {d : Nat} {K N : TK} {I : TI} {R0 R : TR} {L : TL} {sz : Nat} {φ : Int32 → TI → TR → Prop} (C : Cx p s m args meth c (AM K sz) G RX5 cX5_run 3) (hr : meth.sig.returnType = (some .int)) {a0 : Nat}
    (h : K a0 = 16 ∧ ∃ b2, R a0 8 = some b2 ∧ K b2 = 12 ∧ ∃ φ5 : TI → Prop, MtV l G yX1_clear cX1_clear 1 none d [.ref b2] K N I R L sz φ5 ∧ ∀ (I8 : TI), φ5 I8 → ∀ I14 : TI, I14 = u2 I8 a0 10 0 → ∀ I15 : TI, I15 = u2 I14 a0 11 0 → ∀ I16 : TI, I16 = u2 I15 a0 12 0 → ∃ φ17 : Option Nat → TI → Prop, MtR l G yX5_textNumbered cX5_textNumbered 2 (some (.object "CopyReplace$Text")) d [.ref a0, .int 0] K N I16 R L sz φ17 ∧ ∀ (r19 : Option Nat) (I20 : TI), φ17 r19 I20 → ((r19 = none → φ (I20 b2 6) I20 R) ∧ (∀ b26 : Nat, r19 = some b26 → ∃ φ27 : Int32 → TI → TR → Prop, MtJ l G yX5_makeRow cX5_makeRow 8 (some .int) d [.ref a0, .ref b26, .int 0, .int 0] K N I20 R L sz φ27 ∧ ∀ (r29 : Int32) (I30 : TI) (R31 : TR), φ27 r29 I30 R31 → ((¬ r29 = 0 → ((r29 = 0 → ∃ b36, R31 a0 8 = some b36 ∧ K b36 = 12 ∧ φ (I30 b36 6) I30 R31) ∧ (¬ r29 = 0 → ∃ b39, R31 a0 8 = some b39 ∧ K b39 = 12 ∧ ∃ φ42 : TI → Prop, MtV l G yX1_clear cX1_clear 1 none d [.ref b39] K N I30 R31 L sz φ42 ∧ ∀ (I45 : TI), φ42 I45 → φ r29 I45 R31))) ∧ (r29 = 0 → K b26 = 14 ∧ ∃ b52, R31 b26 2 = some b52 ∧ ∃ φ54 : Int32 → TI → Prop, MtI l G yX5_matchByReplaces cX5_matchByReplaces 7 (some .int) d [.ref a0, .ref b52] K N I30 R31 L sz φ54 ∧ ∀ (r56 : Int32) (I57 : TI), φ54 r56 I57 → ((r56 = 0 → ∃ b63, R31 a0 8 = some b63 ∧ K b63 = 12 ∧ φ (I57 b63 6) I57 R31) ∧ (¬ r56 = 0 → ∃ b66, R31 a0 8 = some b66 ∧ K b66 = 12 ∧ ∃ φ69 : TI → Prop, MtV l G yX1_clear cX1_clear 1 none d [.ref b66] K N I57 R31 L sz φ69 ∧ ∀ (I72 : TI), φ69 I72 → φ r56 I72 R31))))))) :
    WJ p l e s m args below meth c G (d + 1) φ K N R0 L sz 3 0 [(0, .ref a0)] I R := by
  refine wm_aload_n C rfl dX5_run_0 ?_
  obtain ⟨hk1, h⟩ := h
  obtain ⟨b2, hr3, h⟩ := h
  refine wm_getR C fqX5_37 hk1 hr3 dX5_run_1 ?_
  obtain ⟨hk4, h⟩ := h
  obtain ⟨φ5, hM6, h⟩ := h
  refine wm_cVV0 C vqX5_114 hM6 hk4 ⟨Nat.le_refl _, Nat.le_refl _⟩ (Nat.le_of_ble_eq_true rfl) ⟨Nat.le_of_ble_eq_true rfl, Nat.le_of_ble_eq_true rfl⟩ dX5_run_4 (fun I8 hφ13 => ?_)
  replace h := h I8 hφ13
  refine wm_aload_n C rfl dX5_run_7 ?_
  refine wm_iconst C 0 dX5_run_8 ?_ (by decide)
  refine wm_putI C fqX5_117 hk1 dX5_run_9 ?_
  refine nmI (fun I14 hI14 => ?_)
  replace h := h I14 hI14
  refine wm_aload_n C rfl dX5_run_12 ?_
  refine wm_iconst C 0 dX5_run_13 ?_ (by decide)
  refine wm_putI C fqX5_120 hk1 dX5_run_14 ?_
  refine nmI (fun I15 hI15 => ?_)
  replace h := h I15 hI15
  refine wm_aload_n C rfl dX5_run_17 ?_
  refine wm_iconst C 0 dX5_run_18 ?_ (by decide)
  refine wm_putI C fqX5_123 hk1 dX5_run_19 ?_
  refine nmI (fun I16 hI16 => ?_)
  replace h := h I16 hI16
  refine wm_aload_n C rfl dX5_run_22 ?_
  refine wm_iconst C 0 dX5_run_23 ?_ (by decide)
  obtain ⟨φ17, hM18, h⟩ := h
  refine wm_cVR1 C vqX5_55 hM18 hk1 ⟨Nat.le_refl _, Nat.le_refl _⟩ (Nat.le_of_ble_eq_true rfl) ⟨Nat.le_of_ble_eq_true rfl, Nat.le_of_ble_eq_true rfl⟩ dX5_run_24 (fun r19 I20 hφ25 => ?_)
  replace h := h r19 I20 hφ25
  refine wm_astoreQ_n C (by decide) dX5_run_27 ?_
  refine wm_aloadQ_n C rfl dX5_run_28 ?_
  rcases r19 with _ | b26
  · replace h := h.1 rfl
    refine wm_ifnonnullN C dX5_run_29 ?_
    refine wm_aload_n C rfl dX5_run_32 ?_
    refine wm_getR C fqX5_37 hk1 hr3 dX5_run_33 ?_
    refine wm_getI C fqX5_126 hk4 dX5_run_36 ?_
    exact wm_iret C hr rfl (Nat.le_of_ble_eq_true rfl) (Nat.le_of_ble_eq_true rfl) ⟨rfl, rfl, rfl, rfl, _, rfl, h⟩ dX5_run_39
  · replace h := h.2 b26 rfl
    refine wm_ifnonnull C 40 dX5_run_29 ?_ (by decide)
    refine wm_aload_n C rfl dX5_run_40 ?_
    refine wm_aload_n C rfl dX5_run_41 ?_
    refine wm_iconst C 0 dX5_run_42 ?_ (by decide)
    refine wm_iconst C 0 dX5_run_43 ?_ (by decide)
    obtain ⟨φ27, hM28, h⟩ := h
    refine wm_cVJ3 C vqX5_127 hM28 hk1 ⟨Nat.le_refl _, Nat.le_refl _⟩ (Nat.le_of_ble_eq_true rfl) ⟨Nat.le_of_ble_eq_true rfl, Nat.le_of_ble_eq_true rfl⟩ dX5_run_44 (fun r29 I30 R31 hφ35 => ?_)
    replace h := h r29 I30 R31 hφ35
    refine wm_istore_n C (by decide) dX5_run_47 ?_
    refine wm_iload_n C rfl dX5_run_48 ?_
    refine wm_if_ne C 61 dX5_run_49 (by decide) (fun q => ?_) (fun q => ?_)
    · replace h := h.1 q
      refine wm_iload_n C rfl dX5_run_61 ?_
      refine wm_if_eq C 74 dX5_run_62 (by decide) (fun q => ?_) (fun q => ?_)
      · replace h := h.1 q
        refine wm_aload_n C rfl dX5_run_74 ?_
        obtain ⟨b36, hr37, h⟩ := h
        refine wm_getR C fqX5_37 hk1 hr37 dX5_run_75 ?_
        obtain ⟨hk38, h⟩ := h
        refine wm_getI C fqX5_126 hk38 dX5_run_78 ?_
        exact wm_iret C hr rfl (Nat.le_of_ble_eq_true rfl) (Nat.le_of_ble_eq_true rfl) ⟨rfl, rfl, rfl, rfl, _, rfl, h⟩ dX5_run_81
      · replace h := h.2 q
        refine wm_aload_n C rfl dX5_run_65 ?_
        obtain ⟨b39, hr40, h⟩ := h
        refine wm_getR C fqX5_37 hk1 hr40 dX5_run_66 ?_
        obtain ⟨hk41, h⟩ := h
        obtain ⟨φ42, hM43, h⟩ := h
        refine wm_cVV0 C vqX5_114 hM43 hk41 ⟨Nat.le_refl _, Nat.le_refl _⟩ (Nat.le_of_ble_eq_true rfl) ⟨Nat.le_of_ble_eq_true rfl, Nat.le_of_ble_eq_true rfl⟩ dX5_run_69 (fun I45 hφ50 => ?_)
        replace h := h I45 hφ50
        refine wm_iload_n C rfl dX5_run_72 ?_
        exact wm_iret C hr rfl (Nat.le_of_ble_eq_true rfl) (Nat.le_of_ble_eq_true rfl) ⟨rfl, rfl, rfl, rfl, _, rfl, h⟩ dX5_run_73
    · replace h := h.2 q
      refine wm_aload_n C rfl dX5_run_52 ?_
      refine wm_aload_n C rfl dX5_run_53 ?_
      obtain ⟨hk51, h⟩ := h
      obtain ⟨b52, hr53, h⟩ := h
      refine wm_getR C fqX5_131 hk51 hr53 dX5_run_54 ?_
      obtain ⟨φ54, hM55, h⟩ := h
      refine wm_cVI1 C vqX5_134 hM55 hk1 ⟨Nat.le_refl _, Nat.le_refl _⟩ (Nat.le_of_ble_eq_true rfl) ⟨Nat.le_of_ble_eq_true rfl, Nat.le_of_ble_eq_true rfl⟩ dX5_run_57 (fun r56 I57 hφ62 => ?_)
      replace h := h r56 I57 hφ62
      refine wm_istore_n C (by decide) dX5_run_60 ?_
      refine wm_iload_n C rfl dX5_run_61 ?_
      refine wm_if_eq C 74 dX5_run_62 (by decide) (fun q => ?_) (fun q => ?_)
      · replace h := h.1 q
        refine wm_aload_n C rfl dX5_run_74 ?_
        obtain ⟨b63, hr64, h⟩ := h
        refine wm_getR C fqX5_37 hk1 hr64 dX5_run_75 ?_
        obtain ⟨hk65, h⟩ := h
        refine wm_getI C fqX5_126 hk65 dX5_run_78 ?_
        exact wm_iret C hr rfl (Nat.le_of_ble_eq_true rfl) (Nat.le_of_ble_eq_true rfl) ⟨rfl, rfl, rfl, rfl, _, rfl, h⟩ dX5_run_81
      · replace h := h.2 q
        refine wm_aload_n C rfl dX5_run_65 ?_
        obtain ⟨b66, hr67, h⟩ := h
        refine wm_getR C fqX5_37 hk1 hr67 dX5_run_66 ?_
        obtain ⟨hk68, h⟩ := h
        obtain ⟨φ69, hM70, h⟩ := h
        refine wm_cVV0 C vqX5_114 hM70 hk68 ⟨Nat.le_refl _, Nat.le_refl _⟩ (Nat.le_of_ble_eq_true rfl) ⟨Nat.le_of_ble_eq_true rfl, Nat.le_of_ble_eq_true rfl⟩ dX5_run_69 (fun I72 hφ77 => ?_)
        replace h := h I72 hφ77
        refine wm_iload_n C rfl dX5_run_72 ?_
        exact wm_iret C hr rfl (Nat.le_of_ble_eq_true rfl) (Nat.le_of_ble_eq_true rfl) ⟨rfl, rfl, rfl, rfl, _, rfl, h⟩ dX5_run_73
set_option maxRecDepth 100000 in
set_option maxHeartbeats 4000000 in
theorem sX5_run {l : Launch} {G : Gx} {d : Nat} {K N : TK} {I : TI} {R : TR} {L : TL} {sz : Nat} {φ : Int32 → TI → TR → Prop} {a0 : Nat}
    (h : K a0 = 16 ∧ ∃ b2, R a0 8 = some b2 ∧ K b2 = 12 ∧ ∃ φ5 : TI → Prop, MtV l G yX1_clear cX1_clear 1 none d [.ref b2] K N I R L sz φ5 ∧ ∀ (I8 : TI), φ5 I8 → ∀ I14 : TI, I14 = u2 I8 a0 10 0 → ∀ I15 : TI, I15 = u2 I14 a0 11 0 → ∀ I16 : TI, I16 = u2 I15 a0 12 0 → ∃ φ17 : Option Nat → TI → Prop, MtR l G yX5_textNumbered cX5_textNumbered 2 (some (.object "CopyReplace$Text")) d [.ref a0, .int 0] K N I16 R L sz φ17 ∧ ∀ (r19 : Option Nat) (I20 : TI), φ17 r19 I20 → ((r19 = none → φ (I20 b2 6) I20 R) ∧ (∀ b26 : Nat, r19 = some b26 → ∃ φ27 : Int32 → TI → TR → Prop, MtJ l G yX5_makeRow cX5_makeRow 8 (some .int) d [.ref a0, .ref b26, .int 0, .int 0] K N I20 R L sz φ27 ∧ ∀ (r29 : Int32) (I30 : TI) (R31 : TR), φ27 r29 I30 R31 → ((¬ r29 = 0 → ((r29 = 0 → ∃ b36, R31 a0 8 = some b36 ∧ K b36 = 12 ∧ φ (I30 b36 6) I30 R31) ∧ (¬ r29 = 0 → ∃ b39, R31 a0 8 = some b39 ∧ K b39 = 12 ∧ ∃ φ42 : TI → Prop, MtV l G yX1_clear cX1_clear 1 none d [.ref b39] K N I30 R31 L sz φ42 ∧ ∀ (I45 : TI), φ42 I45 → φ r29 I45 R31))) ∧ (r29 = 0 → K b26 = 14 ∧ ∃ b52, R31 b26 2 = some b52 ∧ ∃ φ54 : Int32 → TI → Prop, MtI l G yX5_matchByReplaces cX5_matchByReplaces 7 (some .int) d [.ref a0, .ref b52] K N I30 R31 L sz φ54 ∧ ∀ (r56 : Int32) (I57 : TI), φ54 r56 I57 → ((r56 = 0 → ∃ b63, R31 a0 8 = some b63 ∧ K b63 = 12 ∧ φ (I57 b63 6) I57 R31) ∧ (¬ r56 = 0 → ∃ b66, R31 a0 8 = some b66 ∧ K b66 = 12 ∧ ∃ φ69 : TI → Prop, MtV l G yX1_clear cX1_clear 1 none d [.ref b66] K N I57 R31 L sz φ69 ∧ ∀ (I72 : TI), φ69 I72 → φ r56 I72 R31))))))) :
    MtJ l G yX5_run cX5_run 3 (some .int) (d + 1) [.ref a0] K N I R L sz φ :=
  MetM.of (own := RX5) (by decide) rfl (catR cat0) (Nat.le_of_ble_eq_true rfl) (fun p e s m args below meth c C hr hnm => vX5_run_0 C hr h)
set_option maxRecDepth 100000 in
set_option maxHeartbeats 4000000 in
theorem vX5_place_0 {p : Program} {l : Launch} {e : Env} {s : State} {m : MethodId} {args : Array Value} {below : List Frame} {meth : Method} {c : Code} {G : Gx} {d : Nat} {K N : TK} {I : TI} {R : TR} {L : TL} {sz : Nat} {φ : Int32 → TI → Prop} (C : Cx p s m args meth c (AM K sz) G RX5 cX5_place 3) (hr : meth.sig.returnType = (some .int)) {a0 : Nat} {x1 : Int32} {x2 : Int32}
    (h : K a0 = 16 ∧ ∃ b2, R a0 8 = some b2 ∧ K b2 = 12 ∧ ∃ φ5 : Int32 → TI → Prop, MtI l G yX1_has cX1_has 2 (some .boolean) d [.ref b2, .int x1] K N I R L sz φ5 ∧ ∀ (r7 : Int32) (I8 : TI), φ5 r7 I8 → ((¬ r7 = 0 → (((x2.toInt < 0 ∨ 4 < x2.toInt) → φ (-1) I8) ∧ (x2 = 0 → ∃ b14, R b2 1 = some b14 ∧ K b14 = 20 ∧ vp_in x1 (N b14) ∧ φ (I8 b14 (Int32.toNatClampNeg x1)) I8) ∧ (x2 = 1 → ∃ b18, R b2 2 = some b18 ∧ K b18 = 20 ∧ vp_in x1 (N b18) ∧ φ (I8 b18 (Int32.toNatClampNeg x1)) I8) ∧ (x2 = 2 → ∃ b22, R b2 3 = some b22 ∧ K b22 = 20 ∧ vp_in x1 (N b22) ∧ φ (I8 b22 (Int32.toNatClampNeg x1)) I8) ∧ (x2 = 3 → ∃ b26, R b2 5 = some b26 ∧ K b26 = 21 ∧ vp_in x1 (N b26) ∧ (((I8 b26 (Int32.toNatClampNeg x1)) = 0 → φ 0 I8) ∧ (¬ (I8 b26 (Int32.toNatClampNeg x1)) = 0 → φ 1 I8))) ∧ (x2 = 4 → ∃ b30, R b2 4 = some b30 ∧ K b30 = 20 ∧ vp_in x1 (N b30) ∧ φ (I8 b30 (Int32.toNatClampNeg x1)) I8))) ∧ (r7 = 0 → φ (-1) I8))) :
    WI p l e s m args below meth c G (d + 1) φ K N R L sz 3 0 [(0, .ref a0), (1, .int x1), (2, .int x2)] I := by
  refine wm_aload_n C rfl dX5_place_0 ?_
  obtain ⟨hk1, h⟩ := h
  obtain ⟨b2, hr3, h⟩ := h
  refine wm_getR C fqX5_37 hk1 hr3 dX5_place_1 ?_
  refine wm_iload_n C rfl dX5_place_4 ?_
  obtain ⟨hk4, h⟩ := h
  obtain ⟨φ5, hM6, h⟩ := h
  refine wm_cVI1 C vqX5_138 hM6 hk4 ⟨Nat.le_refl _, Nat.le_refl _⟩ (Nat.le_of_ble_eq_true rfl) ⟨Nat.le_of_ble_eq_true rfl, Nat.le_of_ble_eq_true rfl⟩ dX5_place_5 (fun r7 I8 hφ13 => ?_)
  replace h := h r7 I8 hφ13
  refine wm_if_ne C 13 dX5_place_8 (by decide) (fun q => ?_) (fun q => ?_)
  · replace h := h.1 q
    refine wm_iload_n C rfl dX5_place_13 ?_
    rcases sw_4 x2 with q | q | q | q | q | q
    · replace h := h.1 q
      refine wm_tableOut C 106 dX5_place_14 q (by decide) ?_
      refine wm_iconst C (-1) dX5_place_106 ?_ (by decide)
      exact wm_iret C hr rfl (Nat.le_of_ble_eq_true rfl) (Nat.le_of_ble_eq_true rfl) ⟨rfl, rfl, rfl, rfl, rfl, _, rfl, h⟩ dX5_place_107
    · replace h := h.2.1 q
      refine wm_tableIn C 34 48 dX5_place_14 (by rw [q]; decide) (by rw [q]; decide) (by rw [q]; rfl) (by decide) ?_
      refine wm_aload_n C rfl dX5_place_48 ?_
      refine wm_getR C fqX5_37 hk1 hr3 dX5_place_49 ?_
      obtain ⟨b14, hr15, h⟩ := h
      refine wm_getR C fqX5_148 hk4 hr15 dX5_place_52 ?_
      refine wm_iload_n C rfl dX5_place_55 ?_
      obtain ⟨hk16, h⟩ := h
      obtain ⟨hi17, h⟩ := h
      refine wm_iald C hk16 hi17 dX5_place_56 ?_
      exact wm_iret C hr rfl (Nat.le_of_ble_eq_true rfl) (Nat.le_of_ble_eq_true rfl) ⟨rfl, rfl, rfl, rfl, rfl, _, rfl, h⟩ dX5_place_57
    · replace h := h.2.2.1 q
      refine wm_tableIn C 44 58 dX5_place_14 (by rw [q]; decide) (by rw [q]; decide) (by rw [q]; rfl) (by decide) ?_
      refine wm_aload_n C rfl dX5_place_58 ?_
      refine wm_getR C fqX5_37 hk1 hr3 dX5_place_59 ?_
      obtain ⟨b18, hr19, h⟩ := h
      refine wm_getR C fqX5_150 hk4 hr19 dX5_place_62 ?_
      refine wm_iload_n C rfl dX5_place_65 ?_
      obtain ⟨hk20, h⟩ := h
      obtain ⟨hi21, h⟩ := h
      refine wm_iald C hk20 hi21 dX5_place_66 ?_
      exact wm_iret C hr rfl (Nat.le_of_ble_eq_true rfl) (Nat.le_of_ble_eq_true rfl) ⟨rfl, rfl, rfl, rfl, rfl, _, rfl, h⟩ dX5_place_67
    · replace h := h.2.2.2.1 q
      refine wm_tableIn C 54 68 dX5_place_14 (by rw [q]; decide) (by rw [q]; decide) (by rw [q]; rfl) (by decide) ?_
      refine wm_aload_n C rfl dX5_place_68 ?_
      refine wm_getR C fqX5_37 hk1 hr3 dX5_place_69 ?_
      obtain ⟨b22, hr23, h⟩ := h
      refine wm_getR C fqX5_153 hk4 hr23 dX5_place_72 ?_
      refine wm_iload_n C rfl dX5_place_75 ?_
      obtain ⟨hk24, h⟩ := h
      obtain ⟨hi25, h⟩ := h
      refine wm_iald C hk24 hi25 dX5_place_76 ?_
      exact wm_iret C hr rfl (Nat.le_of_ble_eq_true rfl) (Nat.le_of_ble_eq_true rfl) ⟨rfl, rfl, rfl, rfl, rfl, _, rfl, h⟩ dX5_place_77
    · replace h := h.2.2.2.2.1 q
      refine wm_tableIn C 64 78 dX5_place_14 (by rw [q]; decide) (by rw [q]; decide) (by rw [q]; rfl) (by decide) ?_
      refine wm_aload_n C rfl dX5_place_78 ?_
      refine wm_getR C fqX5_37 hk1 hr3 dX5_place_79 ?_
      obtain ⟨b26, hr27, h⟩ := h
      refine wm_getR C fqX5_155 hk4 hr27 dX5_place_82 ?_
      refine wm_iload_n C rfl dX5_place_85 ?_
      obtain ⟨hk28, h⟩ := h
      obtain ⟨hi29, h⟩ := h
      refine wm_zald C hk28 hi29 dX5_place_86 ?_
      refine wm_if_eq C 94 dX5_place_87 (by decide) (fun q => ?_) (fun q => ?_)
      · replace h := h.1 q
        refine wm_iconst C 0 dX5_place_94 ?_ (by decide)
        exact wm_iret C hr rfl (Nat.le_of_ble_eq_true rfl) (Nat.le_of_ble_eq_true rfl) ⟨rfl, rfl, rfl, rfl, rfl, _, rfl, h⟩ dX5_place_95
      · replace h := h.2 q
        refine wm_iconst C 1 dX5_place_90 ?_ (by decide)
        refine wm_goto C 95 dX5_place_91 ?_ (by decide)
        exact wm_iret C hr rfl (Nat.le_of_ble_eq_true rfl) (Nat.le_of_ble_eq_true rfl) ⟨rfl, rfl, rfl, rfl, rfl, _, rfl, h⟩ dX5_place_95
    · replace h := h.2.2.2.2.2 q
      refine wm_tableIn C 82 96 dX5_place_14 (by rw [q]; decide) (by rw [q]; decide) (by rw [q]; rfl) (by decide) ?_
      refine wm_aload_n C rfl dX5_place_96 ?_
      refine wm_getR C fqX5_37 hk1 hr3 dX5_place_97 ?_
      obtain ⟨b30, hr31, h⟩ := h
      refine wm_getR C fqX5_159 hk4 hr31 dX5_place_100 ?_
      refine wm_iload_n C rfl dX5_place_103 ?_
      obtain ⟨hk32, h⟩ := h
      obtain ⟨hi33, h⟩ := h
      refine wm_iald C hk32 hi33 dX5_place_104 ?_
      exact wm_iret C hr rfl (Nat.le_of_ble_eq_true rfl) (Nat.le_of_ble_eq_true rfl) ⟨rfl, rfl, rfl, rfl, rfl, _, rfl, h⟩ dX5_place_105
  · replace h := h.2 q
    refine wm_iconst C (-1) dX5_place_11 ?_ (by decide)
    exact wm_iret C hr rfl (Nat.le_of_ble_eq_true rfl) (Nat.le_of_ble_eq_true rfl) ⟨rfl, rfl, rfl, rfl, rfl, _, rfl, h⟩ dX5_place_12
set_option maxRecDepth 100000 in
set_option maxHeartbeats 4000000 in
theorem sX5_place {l : Launch} {G : Gx} {d : Nat} {K N : TK} {I : TI} {R : TR} {L : TL} {sz : Nat} {φ : Int32 → TI → Prop} {a0 : Nat} {x1 : Int32} {x2 : Int32}
    (h : K a0 = 16 ∧ ∃ b2, R a0 8 = some b2 ∧ K b2 = 12 ∧ ∃ φ5 : Int32 → TI → Prop, MtI l G yX1_has cX1_has 2 (some .boolean) d [.ref b2, .int x1] K N I R L sz φ5 ∧ ∀ (r7 : Int32) (I8 : TI), φ5 r7 I8 → ((¬ r7 = 0 → (((x2.toInt < 0 ∨ 4 < x2.toInt) → φ (-1) I8) ∧ (x2 = 0 → ∃ b14, R b2 1 = some b14 ∧ K b14 = 20 ∧ vp_in x1 (N b14) ∧ φ (I8 b14 (Int32.toNatClampNeg x1)) I8) ∧ (x2 = 1 → ∃ b18, R b2 2 = some b18 ∧ K b18 = 20 ∧ vp_in x1 (N b18) ∧ φ (I8 b18 (Int32.toNatClampNeg x1)) I8) ∧ (x2 = 2 → ∃ b22, R b2 3 = some b22 ∧ K b22 = 20 ∧ vp_in x1 (N b22) ∧ φ (I8 b22 (Int32.toNatClampNeg x1)) I8) ∧ (x2 = 3 → ∃ b26, R b2 5 = some b26 ∧ K b26 = 21 ∧ vp_in x1 (N b26) ∧ (((I8 b26 (Int32.toNatClampNeg x1)) = 0 → φ 0 I8) ∧ (¬ (I8 b26 (Int32.toNatClampNeg x1)) = 0 → φ 1 I8))) ∧ (x2 = 4 → ∃ b30, R b2 4 = some b30 ∧ K b30 = 20 ∧ vp_in x1 (N b30) ∧ φ (I8 b30 (Int32.toNatClampNeg x1)) I8))) ∧ (r7 = 0 → φ (-1) I8))) :
    MtI l G yX5_place cX5_place 3 (some .int) (d + 1) [.ref a0, .int x1, .int x2] K N I R L sz φ :=
  MetM.of (own := RX5) (by decide) rfl (catR (catI (catI cat0))) (Nat.le_of_ble_eq_true rfl) (fun p e s m args below meth c C hr hnm => vX5_place_0 C hr h)
set_option maxRecDepth 100000 in
set_option maxHeartbeats 4000000 in
theorem vX5_ring_0 {p : Program} {l : Launch} {e : Env} {s : State} {m : MethodId} {args : Array Value} {below : List Frame} {meth : Method} {c : Code} {G : Gx} {d : Nat} {K N : TK} {I : TI} {R : TR} {L : TL} {sz : Nat} {φ : Int32 → TI → Prop} (C : Cx p s m args meth c (AM K sz) G RX5 cX5_ring 2) (hr : meth.sig.returnType = (some .int)) {a0 : Nat} {x1 : Int32}
    (h : ((x1 < 0 → φ (-1) I) ∧ (¬ x1 < 0 → K a0 = 16 ∧ (((I a0 10) ≤ x1 → φ (-1) I) ∧ (¬ (I a0 10) ≤ x1 → ∃ b2, R a0 9 = some b2 ∧ K b2 = 20 ∧ (((nI (N b2)) ≤ x1 → φ (-1) I) ∧ (¬ (nI (N b2)) ≤ x1 → vp_in x1 (N b2) ∧ φ (I b2 (Int32.toNatClampNeg x1)) I))))))) :
    WI p l e s m args below meth c G d φ K N R L sz 2 0 [(0, .ref a0), (1, .int x1)] I := by
  refine wm_iload_n C rfl dX5_ring_0 ?_
  refine wm_if_lt C 30 dX5_ring_1 (by decide) (fun q => ?_) (fun q => ?_)
  · replace h := h.1 q
    refine wm_iconst C (-1) dX5_ring_30 ?_ (by decide)
    exact wm_iret C hr rfl (Nat.le_of_ble_eq_true rfl) (Nat.le_of_ble_eq_true rfl) ⟨rfl, rfl, rfl, rfl, rfl, _, rfl, h⟩ dX5_ring_31
  · replace h := h.2 q
    refine wm_iload_n C rfl dX5_ring_4 ?_
    refine wm_aload_n C rfl dX5_ring_5 ?_
    obtain ⟨hk1, h⟩ := h
    refine wm_getI C fqX5_117 hk1 dX5_ring_6 ?_
    refine wm_icmp_ge C 30 dX5_ring_9 (by decide) (fun q => ?_) (fun q => ?_)
    · replace h := h.1 q
      refine wm_iconst C (-1) dX5_ring_30 ?_ (by decide)
      exact wm_iret C hr rfl (Nat.le_of_ble_eq_true rfl) (Nat.le_of_ble_eq_true rfl) ⟨rfl, rfl, rfl, rfl, rfl, _, rfl, h⟩ dX5_ring_31
    · replace h := h.2 q
      refine wm_iload_n C rfl dX5_ring_12 ?_
      refine wm_aload_n C rfl dX5_ring_13 ?_
      obtain ⟨b2, hr3, h⟩ := h
      refine wm_getR C fqX5_40 hk1 hr3 dX5_ring_14 ?_
      obtain ⟨hk4, h⟩ := h
      refine wm_alen C (Or.inl hk4) dX5_ring_17 ?_
      refine wm_icmp_ge C 30 dX5_ring_18 (by decide) (fun q => ?_) (fun q => ?_)
      · replace h := h.1 q
        refine wm_iconst C (-1) dX5_ring_30 ?_ (by decide)
        exact wm_iret C hr rfl (Nat.le_of_ble_eq_true rfl) (Nat.le_of_ble_eq_true rfl) ⟨rfl, rfl, rfl, rfl, rfl, _, rfl, h⟩ dX5_ring_31
      · replace h := h.2 q
        refine wm_aload_n C rfl dX5_ring_21 ?_
        refine wm_getR C fqX5_40 hk1 hr3 dX5_ring_22 ?_
        refine wm_iload_n C rfl dX5_ring_25 ?_
        obtain ⟨hi5, h⟩ := h
        refine wm_iald C hk4 hi5 dX5_ring_26 ?_
        refine wm_goto C 31 dX5_ring_27 ?_ (by decide)
        exact wm_iret C hr rfl (Nat.le_of_ble_eq_true rfl) (Nat.le_of_ble_eq_true rfl) ⟨rfl, rfl, rfl, rfl, rfl, _, rfl, h⟩ dX5_ring_31
set_option maxRecDepth 100000 in
set_option maxHeartbeats 4000000 in
theorem sX5_ring {l : Launch} {G : Gx} {d : Nat} {K N : TK} {I : TI} {R : TR} {L : TL} {sz : Nat} {φ : Int32 → TI → Prop} {a0 : Nat} {x1 : Int32}
    (h : ((x1 < 0 → φ (-1) I) ∧ (¬ x1 < 0 → K a0 = 16 ∧ (((I a0 10) ≤ x1 → φ (-1) I) ∧ (¬ (I a0 10) ≤ x1 → ∃ b2, R a0 9 = some b2 ∧ K b2 = 20 ∧ (((nI (N b2)) ≤ x1 → φ (-1) I) ∧ (¬ (nI (N b2)) ≤ x1 → vp_in x1 (N b2) ∧ φ (I b2 (Int32.toNatClampNeg x1)) I))))))) :
    MtI l G yX5_ring cX5_ring 2 (some .int) d [.ref a0, .int x1] K N I R L sz φ :=
  MetM.of (own := RX5) (by decide) rfl (catR (catI cat0)) (Nat.le_of_ble_eq_true rfl) (fun p e s m args below meth c C hr hnm => vX5_ring_0 C hr h)
set_option maxRecDepth 100000 in
set_option maxHeartbeats 4000000 in
theorem vX5_count_0 {p : Program} {l : Launch} {e : Env} {s : State} {m : MethodId} {args : Array Value} {below : List Frame} {meth : Method} {c : Code} {G : Gx} {d : Nat} {K N : TK} {I : TI} {R : TR} {L : TL} {sz : Nat} {φ : Int32 → TI → Prop} (C : Cx p s m args meth c (AM K sz) G RX5 cX5_count 2) (hr : meth.sig.returnType = (some .int)) {a0 : Nat} {x1 : Int32}
    (h : (((x1.toInt < 0 ∨ 4 < x1.toInt) → φ (-1) I) ∧ (x1 = 0 → K a0 = 16 ∧ φ ((I a0 3) - 1) I) ∧ (x1 = 1 → K a0 = 16 ∧ φ (I a0 4) I) ∧ (x1 = 2 → K a0 = 16 ∧ φ (I a0 5) I) ∧ (x1 = 3 → K a0 = 16 ∧ φ (I a0 11) I) ∧ (x1 = 4 → K a0 = 16 ∧ φ (I a0 12) I))) :
    WI p l e s m args below meth c G d φ K N R L sz 2 0 [(0, .ref a0), (1, .int x1)] I := by
  refine wm_iload_n C rfl dX5_count_0 ?_
  rcases sw_4 x1 with q | q | q | q | q | q
  · replace h := h.1 q
    refine wm_tableOut C 63 dX5_count_1 q (by decide) ?_
    refine wm_iconst C (-1) dX5_count_63 ?_ (by decide)
    exact wm_iret C hr rfl (Nat.le_of_ble_eq_true rfl) (Nat.le_of_ble_eq_true rfl) ⟨rfl, rfl, rfl, rfl, rfl, _, rfl, h⟩ dX5_count_64
  · replace h := h.2.1 q
    refine wm_tableIn C 35 36 dX5_count_1 (by rw [q]; decide) (by rw [q]; decide) (by rw [q]; rfl) (by decide) ?_
    refine wm_aload_n C rfl dX5_count_36 ?_
    obtain ⟨hk1, h⟩ := h
    refine wm_getI C fqX5_47 hk1 dX5_count_37 ?_
    refine wm_iconst C 1 dX5_count_40 ?_ (by decide)
    refine wm_isub C dX5_count_41 ?_
    exact wm_iret C hr rfl (Nat.le_of_ble_eq_true rfl) (Nat.le_of_ble_eq_true rfl) ⟨rfl, rfl, rfl, rfl, rfl, _, rfl, h⟩ dX5_count_42
  · replace h := h.2.2.1 q
    refine wm_tableIn C 42 43 dX5_count_1 (by rw [q]; decide) (by rw [q]; decide) (by rw [q]; rfl) (by decide) ?_
    refine wm_aload_n C rfl dX5_count_43 ?_
    obtain ⟨hk2, h⟩ := h
    refine wm_getI C fqX5_162 hk2 dX5_count_44 ?_
    exact wm_iret C hr rfl (Nat.le_of_ble_eq_true rfl) (Nat.le_of_ble_eq_true rfl) ⟨rfl, rfl, rfl, rfl, rfl, _, rfl, h⟩ dX5_count_47
  · replace h := h.2.2.2.1 q
    refine wm_tableIn C 47 48 dX5_count_1 (by rw [q]; decide) (by rw [q]; decide) (by rw [q]; rfl) (by decide) ?_
    refine wm_aload_n C rfl dX5_count_48 ?_
    obtain ⟨hk3, h⟩ := h
    refine wm_getI C fqX5_79 hk3 dX5_count_49 ?_
    exact wm_iret C hr rfl (Nat.le_of_ble_eq_true rfl) (Nat.le_of_ble_eq_true rfl) ⟨rfl, rfl, rfl, rfl, rfl, _, rfl, h⟩ dX5_count_52
  · replace h := h.2.2.2.2.1 q
    refine wm_tableIn C 52 53 dX5_count_1 (by rw [q]; decide) (by rw [q]; decide) (by rw [q]; rfl) (by decide) ?_
    refine wm_aload_n C rfl dX5_count_53 ?_
    obtain ⟨hk4, h⟩ := h
    refine wm_getI C fqX5_120 hk4 dX5_count_54 ?_
    exact wm_iret C hr rfl (Nat.le_of_ble_eq_true rfl) (Nat.le_of_ble_eq_true rfl) ⟨rfl, rfl, rfl, rfl, rfl, _, rfl, h⟩ dX5_count_57
  · replace h := h.2.2.2.2.2 q
    refine wm_tableIn C 57 58 dX5_count_1 (by rw [q]; decide) (by rw [q]; decide) (by rw [q]; rfl) (by decide) ?_
    refine wm_aload_n C rfl dX5_count_58 ?_
    obtain ⟨hk5, h⟩ := h
    refine wm_getI C fqX5_123 hk5 dX5_count_59 ?_
    exact wm_iret C hr rfl (Nat.le_of_ble_eq_true rfl) (Nat.le_of_ble_eq_true rfl) ⟨rfl, rfl, rfl, rfl, rfl, _, rfl, h⟩ dX5_count_62
set_option maxRecDepth 100000 in
set_option maxHeartbeats 4000000 in
theorem sX5_count {l : Launch} {G : Gx} {d : Nat} {K N : TK} {I : TI} {R : TR} {L : TL} {sz : Nat} {φ : Int32 → TI → Prop} {a0 : Nat} {x1 : Int32}
    (h : (((x1.toInt < 0 ∨ 4 < x1.toInt) → φ (-1) I) ∧ (x1 = 0 → K a0 = 16 ∧ φ ((I a0 3) - 1) I) ∧ (x1 = 1 → K a0 = 16 ∧ φ (I a0 4) I) ∧ (x1 = 2 → K a0 = 16 ∧ φ (I a0 5) I) ∧ (x1 = 3 → K a0 = 16 ∧ φ (I a0 11) I) ∧ (x1 = 4 → K a0 = 16 ∧ φ (I a0 12) I))) :
    MtI l G yX5_count cX5_count 2 (some .int) d [.ref a0, .int x1] K N I R L sz φ :=
  MetM.of (own := RX5) (by decide) rfl (catR (catI cat0)) (Nat.le_of_ble_eq_true rfl) (fun p e s m args below meth c C hr hnm => vX5_count_0 C hr h)
set_option maxRecDepth 100000 in
set_option maxHeartbeats 4000000 in
theorem vX5_addStatement_0 {p : Program} {l : Launch} {e : Env} {s : State} {m : MethodId} {args : Array Value} {below : List Frame} {meth : Method} {c : Code} {G : Gx} {d : Nat} {K N : TK} {I : TI} {R : TR} {L : TL} {sz : Nat} {φ : Int32 → TK → TK → TI → TR → Nat → Prop} (C : Cx p s m args meth c (AM K sz) G RX5 cX5_addStatement 6) (hr : meth.sig.returnType = (some .int)) {a0 : Nat} {a1 : Nat} {x2 : Int32} {x3 : Int32} {x4 : Int32}
    (h : K a0 = 16 ∧ ((60 ≤ (I a0 4) → φ (-1) K N I R sz) ∧ (¬ 60 ≤ (I a0 4) → K a1 = 14 ∧ ∃ φ3 : Int32 → TI → Prop, MtI l G yX3_append cX3_append 2 (some .boolean) d [.ref a1, .int ((-100) - ((I a0 4) + 1))] K N I R L sz φ3 ∧ ∀ (r5 : Int32) (I6 : TI), φ3 r5 I6 → ((¬ r5 = 0 → ∀ K12 : TK, K12 = va_up K sz 13 → ∀ I13 : TI, I13 = va_up I6 sz (fun _ => 0) → ∀ R14 : TR, R14 = va_up R sz (fun _ => none) → ∀ z16 : Nat, z16 = sz + 1 → K12 a0 = 16 ∧ ∃ φ18 : TK → TK → TI → TR → Nat → Prop, MtAV l G yX2_init cX2_init 5 none d 1 8 [.ref sz, .int ((I13 a0 4) + 1), .int x2, .int x3, .int x4] K12 N I13 R14 L z16 φ18 ∧ ∀ (K23 : TK) (N24 : TK) (I21 : TI) (R22 : TR) (z25 : Nat), φ18 K23 N24 I21 R22 z25 → K23 a0 = 16 ∧ ∃ b28, R22 a0 1 = some b28 ∧ K23 b28 = 24 ∧ vp_in (I21 a0 4) (N24 b28) ∧ K23 sz = 13 ∧ ∀ R33 : TR, R33 = u2 R22 b28 (Int32.toNatClampNeg (I21 a0 4)) (some sz) → ∀ I34 : TI, I34 = u2 I21 a0 4 ((I21 a0 4) + 1) → φ (I34 sz 0) K23 N24 I34 R33 z25) ∧ (r5 = 0 → φ (-1) K N I6 R sz))))) :
    Wm p l e (rmD (d + 1) 2 14) s m args below meth c (MQ below (PoM G K sz (pAI K N R L sz φ)) args s 2 14 (AM K sz)) (AM K sz) G 6 0 [(0, .ref a0), (1, .ref a1), (2, .int x2), (3, .int x3), (4, .int x4)] [] K N I R L sz 0 0 := by
  refine wm_aload_n C rfl dX5_addStatement_0 ?_
  obtain ⟨hk1, h⟩ := h
  refine wm_getI C fqX5_162 hk1 dX5_addStatement_1 ?_
  refine wm_bipush C 60 dX5_addStatement_4 ?_ (by decide)
  refine wm_icmp_ge C 25 dX5_addStatement_6 (by decide) (fun q => ?_) (fun q => ?_)
  · replace h := h.1 q
    refine wm_iconst C (-1) dX5_addStatement_25 ?_ (by decide)
    exact wm_iret C hr rfl (Nat.le_of_ble_eq_true rfl) (Nat.le_of_ble_eq_true rfl) ⟨rfl, _, rfl, h⟩ dX5_addStatement_26
  · replace h := h.2 q
    refine wm_aload_n C rfl dX5_addStatement_9 ?_
    refine wm_bipush C (-100) dX5_addStatement_10 ?_ (by decide)
    refine wm_aload_n C rfl dX5_addStatement_12 ?_
    refine wm_getI C fqX5_162 hk1 dX5_addStatement_13 ?_
    refine wm_iconst C 1 dX5_addStatement_16 ?_ (by decide)
    refine wm_iadd C dX5_addStatement_17 ?_
    refine wm_isub C dX5_addStatement_18 ?_
    obtain ⟨hk2, h⟩ := h
    obtain ⟨φ3, hM4, h⟩ := h
    refine wm_cVI1 C vqX5_62 hM4 hk2 ⟨Nat.le_refl _, Nat.le_refl _⟩ (Nat.le_of_ble_eq_true rfl) ⟨Nat.le_of_ble_eq_true rfl, Nat.le_of_ble_eq_true rfl⟩ dX5_addStatement_19 (fun r5 I6 hφ11 => ?_)
    replace h := h r5 I6 hφ11
    refine wm_if_ne C 27 dX5_addStatement_22 (by decide) (fun q => ?_) (fun q => ?_)
    · replace h := h.1 q
      refine wm_new C nqX5_15 (Nat.le_of_ble_eq_true rfl) (Nat.le_of_ble_eq_true rfl) dX5_addStatement_27 ?_
      refine nmKIR (fun K12 hK12 I13 hI13 R14 hR14 => ?_)
      replace h := h K12 hK12 I13 hI13 R14 hR14
      refine nmz (fun z16 hz16 => ?_)
      replace h := h z16 hz16
      refine wm_dup C rfl dX5_addStatement_30 ?_
      refine wm_aload_n C rfl dX5_addStatement_31 ?_
      obtain ⟨hk17, h⟩ := h
      refine wm_getI C fqX5_162 hk17 dX5_addStatement_32 ?_
      refine wm_iconst C 1 dX5_addStatement_35 ?_ (by decide)
      refine wm_iadd C dX5_addStatement_36 ?_
      refine wm_iload_n C rfl dX5_addStatement_37 ?_
      refine wm_iload_n C rfl dX5_addStatement_38 ?_
      refine wm_iload C rfl dX5_addStatement_39 ?_
      obtain ⟨φ18, hM19, h⟩ := h
      refine wm_cCAV4 C iqX5_165 hM19 ⟨Nat.le_refl _, Nat.le_refl _⟩ (Nat.le_of_ble_eq_true rfl) ⟨Nat.le_of_ble_eq_true rfl, Nat.le_of_ble_eq_true rfl⟩ dX5_addStatement_41 (fun K23 N24 I21 R22 z25 hφ26 => ?_)
      replace h := h K23 N24 I21 R22 z25 hφ26
      refine wm_astore C (by decide) dX5_addStatement_44 ?_
      refine wm_aload_n C rfl dX5_addStatement_46 ?_
      obtain ⟨hk27, h⟩ := h
      obtain ⟨b28, hr29, h⟩ := h
      refine wm_getR C fqX5_17 hk27 hr29 dX5_addStatement_47 ?_
      refine wm_aload_n C rfl dX5_addStatement_50 ?_
      refine wm_getI C fqX5_162 hk27 dX5_addStatement_51 ?_
      refine wm_aload C rfl dX5_addStatement_54 ?_
      obtain ⟨hk30, h⟩ := h
      obtain ⟨hi31, h⟩ := h
      obtain ⟨hk32, h⟩ := h
      refine wm_aast (t := 4) C (by decide) (by decide) hk30 hi31 hk32 dX5_addStatement_56 ?_
      refine nmR (fun R33 hR33 => ?_)
      replace h := h R33 hR33
      refine wm_aload_n C rfl dX5_addStatement_57 ?_
      refine wm_dup C rfl dX5_addStatement_58 ?_
      refine wm_getI C fqX5_162 hk27 dX5_addStatement_59 ?_
      refine wm_iconst C 1 dX5_addStatement_62 ?_ (by decide)
      refine wm_iadd C dX5_addStatement_63 ?_
      refine wm_putI C fqX5_162 hk27 dX5_addStatement_64 ?_
      refine nmI (fun I34 hI34 => ?_)
      replace h := h I34 hI34
      refine wm_aload C rfl dX5_addStatement_67 ?_
      refine wm_getI C fqX5_168 hk32 dX5_addStatement_69 ?_
      exact wm_iret C hr rfl (Nat.le_of_ble_eq_true rfl) (Nat.le_of_ble_eq_true rfl) ⟨rfl, _, rfl, h⟩ dX5_addStatement_72
    · replace h := h.2 q
      refine wm_iconst C (-1) dX5_addStatement_25 ?_ (by decide)
      exact wm_iret C hr rfl (Nat.le_of_ble_eq_true rfl) (Nat.le_of_ble_eq_true rfl) ⟨rfl, _, rfl, h⟩ dX5_addStatement_26
set_option maxRecDepth 100000 in
set_option maxHeartbeats 4000000 in
theorem sX5_addStatement {l : Launch} {G : Gx} {d : Nat} {K N : TK} {I : TI} {R : TR} {L : TL} {sz : Nat} {φ : Int32 → TK → TK → TI → TR → Nat → Prop} {a0 : Nat} {a1 : Nat} {x2 : Int32} {x3 : Int32} {x4 : Int32}
    (h : K a0 = 16 ∧ ((60 ≤ (I a0 4) → φ (-1) K N I R sz) ∧ (¬ 60 ≤ (I a0 4) → K a1 = 14 ∧ ∃ φ3 : Int32 → TI → Prop, MtI l G yX3_append cX3_append 2 (some .boolean) d [.ref a1, .int ((-100) - ((I a0 4) + 1))] K N I R L sz φ3 ∧ ∀ (r5 : Int32) (I6 : TI), φ3 r5 I6 → ((¬ r5 = 0 → ∀ K12 : TK, K12 = va_up K sz 13 → ∀ I13 : TI, I13 = va_up I6 sz (fun _ => 0) → ∀ R14 : TR, R14 = va_up R sz (fun _ => none) → ∀ z16 : Nat, z16 = sz + 1 → K12 a0 = 16 ∧ ∃ φ18 : TK → TK → TI → TR → Nat → Prop, MtAV l G yX2_init cX2_init 5 none d 1 8 [.ref sz, .int ((I13 a0 4) + 1), .int x2, .int x3, .int x4] K12 N I13 R14 L z16 φ18 ∧ ∀ (K23 : TK) (N24 : TK) (I21 : TI) (R22 : TR) (z25 : Nat), φ18 K23 N24 I21 R22 z25 → K23 a0 = 16 ∧ ∃ b28, R22 a0 1 = some b28 ∧ K23 b28 = 24 ∧ vp_in (I21 a0 4) (N24 b28) ∧ K23 sz = 13 ∧ ∀ R33 : TR, R33 = u2 R22 b28 (Int32.toNatClampNeg (I21 a0 4)) (some sz) → ∀ I34 : TI, I34 = u2 I21 a0 4 ((I21 a0 4) + 1) → φ (I34 sz 0) K23 N24 I34 R33 z25) ∧ (r5 = 0 → φ (-1) K N I6 R sz))))) :
    MtAI l G yX5_addStatement cX5_addStatement 6 (some .int) (d + 1) 2 14 [.ref a0, .ref a1, .int x2, .int x3, .int x4] K N I R L sz φ :=
  MetM.of (own := RX5) (by decide) rfl (catR (catR (catI (catI (catI cat0))))) (Nat.le_of_ble_eq_true rfl) (fun p e s m args below meth c C hr hnm => vX5_addStatement_0 C hr h)
set_option maxRecDepth 100000 in
set_option maxHeartbeats 4000000 in
theorem vX5_textNumbered_0 {p : Program} {l : Launch} {e : Env} {s : State} {m : MethodId} {args : Array Value} {below : List Frame} {meth : Method} {c : Code} {G : Gx} {d : Nat} {K N : TK} {I : TI} {R : TR} {L : TL} {sz : Nat} {φ : Option Nat → TI → Prop} (C : Cx p s m args meth c (AM K sz) G RX5 cX5_textNumbered 2) (hr : meth.sig.returnType = (some (.object "CopyReplace$Text"))) {a0 : Nat} {x1 : Int32}
    (h : ((x1 < 0 → φ none I) ∧ (¬ x1 < 0 → K a0 = 16 ∧ (((I a0 3) ≤ x1 → φ none I) ∧ (¬ (I a0 3) ≤ x1 → ∃ b2, R a0 0 = some b2 ∧ K b2 = 25 ∧ (((nI (N b2)) ≤ x1 → φ none I) ∧ (¬ (nI (N b2)) ≤ x1 → vp_in x1 (N b2) ∧ ∃ b6, R b2 (Int32.toNatClampNeg x1) = some b6 ∧ φ (some b6) I))))))) :
    WR p l e s m args below meth c G d φ K N R L sz 2 0 [(0, .ref a0), (1, .int x1)] I := by
  refine wm_iload_n C rfl dX5_textNumbered_0 ?_
  refine wm_if_lt C 30 dX5_textNumbered_1 (by decide) (fun q => ?_) (fun q => ?_)
  · replace h := h.1 q
    refine wm_null C dX5_textNumbered_30 ?_
    exact wm_aret (r := none) C hr (Nat.le_of_ble_eq_true rfl) (Nat.le_of_ble_eq_true rfl) ⟨rfl, rfl, rfl, rfl, rfl, _, rfl, h⟩ dX5_textNumbered_31
  · replace h := h.2 q
    refine wm_iload_n C rfl dX5_textNumbered_4 ?_
    refine wm_aload_n C rfl dX5_textNumbered_5 ?_
    obtain ⟨hk1, h⟩ := h
    refine wm_getI C fqX5_47 hk1 dX5_textNumbered_6 ?_
    refine wm_icmp_ge C 30 dX5_textNumbered_9 (by decide) (fun q => ?_) (fun q => ?_)
    · replace h := h.1 q
      refine wm_null C dX5_textNumbered_30 ?_
      exact wm_aret (r := none) C hr (Nat.le_of_ble_eq_true rfl) (Nat.le_of_ble_eq_true rfl) ⟨rfl, rfl, rfl, rfl, rfl, _, rfl, h⟩ dX5_textNumbered_31
    · replace h := h.2 q
      refine wm_iload_n C rfl dX5_textNumbered_12 ?_
      refine wm_aload_n C rfl dX5_textNumbered_13 ?_
      obtain ⟨b2, hr3, h⟩ := h
      refine wm_getR C fqX5_11 hk1 hr3 dX5_textNumbered_14 ?_
      obtain ⟨hk4, h⟩ := h
      refine wm_alen C (Or.inr (Or.inr (Or.inr (Or.inr hk4)))) dX5_textNumbered_17 ?_
      refine wm_icmp_ge C 30 dX5_textNumbered_18 (by decide) (fun q => ?_) (fun q => ?_)
      · replace h := h.1 q
        refine wm_null C dX5_textNumbered_30 ?_
        exact wm_aret (r := none) C hr (Nat.le_of_ble_eq_true rfl) (Nat.le_of_ble_eq_true rfl) ⟨rfl, rfl, rfl, rfl, rfl, _, rfl, h⟩ dX5_textNumbered_31
      · replace h := h.2 q
        refine wm_aload_n C rfl dX5_textNumbered_21 ?_
        refine wm_getR C fqX5_11 hk1 hr3 dX5_textNumbered_22 ?_
        refine wm_iload_n C rfl dX5_textNumbered_25 ?_
        obtain ⟨hi5, h⟩ := h
        obtain ⟨b6, hr7, h⟩ := h
        refine wm_aald (t := 5) C (by decide) (by decide) hk4 hi5 hr7 dX5_textNumbered_26 ?_
        refine wm_goto C 31 dX5_textNumbered_27 ?_ (by decide)
        exact wm_aret (r := (some b6)) C hr (Nat.le_of_ble_eq_true rfl) (Nat.le_of_ble_eq_true rfl) ⟨rfl, rfl, rfl, rfl, rfl, _, rfl, h⟩ dX5_textNumbered_31
set_option maxRecDepth 100000 in
set_option maxHeartbeats 4000000 in
theorem sX5_textNumbered {l : Launch} {G : Gx} {d : Nat} {K N : TK} {I : TI} {R : TR} {L : TL} {sz : Nat} {φ : Option Nat → TI → Prop} {a0 : Nat} {x1 : Int32}
    (h : ((x1 < 0 → φ none I) ∧ (¬ x1 < 0 → K a0 = 16 ∧ (((I a0 3) ≤ x1 → φ none I) ∧ (¬ (I a0 3) ≤ x1 → ∃ b2, R a0 0 = some b2 ∧ K b2 = 25 ∧ (((nI (N b2)) ≤ x1 → φ none I) ∧ (¬ (nI (N b2)) ≤ x1 → vp_in x1 (N b2) ∧ ∃ b6, R b2 (Int32.toNatClampNeg x1) = some b6 ∧ φ (some b6) I))))))) :
    MtR l G yX5_textNumbered cX5_textNumbered 2 (some (.object "CopyReplace$Text")) d [.ref a0, .int x1] K N I R L sz φ :=
  MetM.of (own := RX5) (by decide) rfl (catR (catI cat0)) (Nat.le_of_ble_eq_true rfl) (fun p e s m args below meth c C hr hnm => vX5_textNumbered_0 C hr h)
set_option maxRecDepth 100000 in
set_option maxHeartbeats 4000000 in
theorem vX5_statementNumbered_0 {p : Program} {l : Launch} {e : Env} {s : State} {m : MethodId} {args : Array Value} {below : List Frame} {meth : Method} {c : Code} {G : Gx} {d : Nat} {K N : TK} {I : TI} {R : TR} {L : TL} {sz : Nat} {φ : Option Nat → TI → Prop} (C : Cx p s m args meth c (AM K sz) G RX5 cX5_statementNumbered 2) (hr : meth.sig.returnType = (some (.object "CopyReplace$Statement"))) {a0 : Nat} {x1 : Int32}
    (h : ((x1 < 1 → φ none I) ∧ (¬ x1 < 1 → K a0 = 16 ∧ (((I a0 4) < x1 → φ none I) ∧ (¬ (I a0 4) < x1 → ∃ b2, R a0 1 = some b2 ∧ K b2 = 24 ∧ (((nI (N b2)) < x1 → φ none I) ∧ (¬ (nI (N b2)) < x1 → vp_in (x1 - 1) (N b2) ∧ ∃ b6, R b2 (Int32.toNatClampNeg (x1 - 1)) = some b6 ∧ φ (some b6) I))))))) :
    WR p l e s m args below meth c G d φ K N R L sz 2 0 [(0, .ref a0), (1, .int x1)] I := by
  refine wm_iload_n C rfl dX5_statementNumbered_0 ?_
  refine wm_iconst C 1 dX5_statementNumbered_1 ?_ (by decide)
  refine wm_icmp_lt C 33 dX5_statementNumbered_2 (by decide) (fun q => ?_) (fun q => ?_)
  · replace h := h.1 q
    refine wm_null C dX5_statementNumbered_33 ?_
    exact wm_aret (r := none) C hr (Nat.le_of_ble_eq_true rfl) (Nat.le_of_ble_eq_true rfl) ⟨rfl, rfl, rfl, rfl, rfl, _, rfl, h⟩ dX5_statementNumbered_34
  · replace h := h.2 q
    refine wm_iload_n C rfl dX5_statementNumbered_5 ?_
    refine wm_aload_n C rfl dX5_statementNumbered_6 ?_
    obtain ⟨hk1, h⟩ := h
    refine wm_getI C fqX5_162 hk1 dX5_statementNumbered_7 ?_
    refine wm_icmp_gt C 33 dX5_statementNumbered_10 (by decide) (fun q => ?_) (fun q => ?_)
    · replace h := h.1 q
      refine wm_null C dX5_statementNumbered_33 ?_
      exact wm_aret (r := none) C hr (Nat.le_of_ble_eq_true rfl) (Nat.le_of_ble_eq_true rfl) ⟨rfl, rfl, rfl, rfl, rfl, _, rfl, h⟩ dX5_statementNumbered_34
    · replace h := h.2 q
      refine wm_iload_n C rfl dX5_statementNumbered_13 ?_
      refine wm_aload_n C rfl dX5_statementNumbered_14 ?_
      obtain ⟨b2, hr3, h⟩ := h
      refine wm_getR C fqX5_17 hk1 hr3 dX5_statementNumbered_15 ?_
      obtain ⟨hk4, h⟩ := h
      refine wm_alen C (Or.inr (Or.inr (Or.inr (Or.inl hk4)))) dX5_statementNumbered_18 ?_
      refine wm_icmp_gt C 33 dX5_statementNumbered_19 (by decide) (fun q => ?_) (fun q => ?_)
      · replace h := h.1 q
        refine wm_null C dX5_statementNumbered_33 ?_
        exact wm_aret (r := none) C hr (Nat.le_of_ble_eq_true rfl) (Nat.le_of_ble_eq_true rfl) ⟨rfl, rfl, rfl, rfl, rfl, _, rfl, h⟩ dX5_statementNumbered_34
      · replace h := h.2 q
        refine wm_aload_n C rfl dX5_statementNumbered_22 ?_
        refine wm_getR C fqX5_17 hk1 hr3 dX5_statementNumbered_23 ?_
        refine wm_iload_n C rfl dX5_statementNumbered_26 ?_
        refine wm_iconst C 1 dX5_statementNumbered_27 ?_ (by decide)
        refine wm_isub C dX5_statementNumbered_28 ?_
        obtain ⟨hi5, h⟩ := h
        obtain ⟨b6, hr7, h⟩ := h
        refine wm_aald (t := 4) C (by decide) (by decide) hk4 hi5 hr7 dX5_statementNumbered_29 ?_
        refine wm_goto C 34 dX5_statementNumbered_30 ?_ (by decide)
        exact wm_aret (r := (some b6)) C hr (Nat.le_of_ble_eq_true rfl) (Nat.le_of_ble_eq_true rfl) ⟨rfl, rfl, rfl, rfl, rfl, _, rfl, h⟩ dX5_statementNumbered_34
set_option maxRecDepth 100000 in
set_option maxHeartbeats 4000000 in
theorem sX5_statementNumbered {l : Launch} {G : Gx} {d : Nat} {K N : TK} {I : TI} {R : TR} {L : TL} {sz : Nat} {φ : Option Nat → TI → Prop} {a0 : Nat} {x1 : Int32}
    (h : ((x1 < 1 → φ none I) ∧ (¬ x1 < 1 → K a0 = 16 ∧ (((I a0 4) < x1 → φ none I) ∧ (¬ (I a0 4) < x1 → ∃ b2, R a0 1 = some b2 ∧ K b2 = 24 ∧ (((nI (N b2)) < x1 → φ none I) ∧ (¬ (nI (N b2)) < x1 → vp_in (x1 - 1) (N b2) ∧ ∃ b6, R b2 (Int32.toNatClampNeg (x1 - 1)) = some b6 ∧ φ (some b6) I))))))) :
    MtR l G yX5_statementNumbered cX5_statementNumbered 2 (some (.object "CopyReplace$Statement")) d [.ref a0, .int x1] K N I R L sz φ :=
  MetM.of (own := RX5) (by decide) rfl (catR (catI cat0)) (Nat.le_of_ble_eq_true rfl) (fun p e s m args below meth c C hr hnm => vX5_statementNumbered_0 C hr h)
set_option maxRecDepth 100000 in
set_option maxHeartbeats 4000000 in
theorem vX5_phraseNumbered_0 {p : Program} {l : Launch} {e : Env} {s : State} {m : MethodId} {args : Array Value} {below : List Frame} {meth : Method} {c : Code} {G : Gx} {d : Nat} {K N : TK} {I : TI} {R : TR} {L : TL} {sz : Nat} {φ : Option Nat → TI → Prop} (C : Cx p s m args meth c (AM K sz) G RX5 cX5_phraseNumbered 2) (hr : meth.sig.returnType = (some (.object "CopyReplace$Phrase"))) {a0 : Nat} {x1 : Int32}
    (h : ((x1 < 1 → φ none I) ∧ (¬ x1 < 1 → K a0 = 16 ∧ (((I a0 5) < x1 → φ none I) ∧ (¬ (I a0 5) < x1 → ∃ b2, R a0 2 = some b2 ∧ K b2 = 23 ∧ (((nI (N b2)) < x1 → φ none I) ∧ (¬ (nI (N b2)) < x1 → vp_in (x1 - 1) (N b2) ∧ ∃ b6, R b2 (Int32.toNatClampNeg (x1 - 1)) = some b6 ∧ φ (some b6) I))))))) :
    WR p l e s m args below meth c G d φ K N R L sz 2 0 [(0, .ref a0), (1, .int x1)] I := by
  refine wm_iload_n C rfl dX5_phraseNumbered_0 ?_
  refine wm_iconst C 1 dX5_phraseNumbered_1 ?_ (by decide)
  refine wm_icmp_lt C 33 dX5_phraseNumbered_2 (by decide) (fun q => ?_) (fun q => ?_)
  · replace h := h.1 q
    refine wm_null C dX5_phraseNumbered_33 ?_
    exact wm_aret (r := none) C hr (Nat.le_of_ble_eq_true rfl) (Nat.le_of_ble_eq_true rfl) ⟨rfl, rfl, rfl, rfl, rfl, _, rfl, h⟩ dX5_phraseNumbered_34
  · replace h := h.2 q
    refine wm_iload_n C rfl dX5_phraseNumbered_5 ?_
    refine wm_aload_n C rfl dX5_phraseNumbered_6 ?_
    obtain ⟨hk1, h⟩ := h
    refine wm_getI C fqX5_79 hk1 dX5_phraseNumbered_7 ?_
    refine wm_icmp_gt C 33 dX5_phraseNumbered_10 (by decide) (fun q => ?_) (fun q => ?_)
    · replace h := h.1 q
      refine wm_null C dX5_phraseNumbered_33 ?_
      exact wm_aret (r := none) C hr (Nat.le_of_ble_eq_true rfl) (Nat.le_of_ble_eq_true rfl) ⟨rfl, rfl, rfl, rfl, rfl, _, rfl, h⟩ dX5_phraseNumbered_34
    · replace h := h.2 q
      refine wm_iload_n C rfl dX5_phraseNumbered_13 ?_
      refine wm_aload_n C rfl dX5_phraseNumbered_14 ?_
      obtain ⟨b2, hr3, h⟩ := h
      refine wm_getR C fqX5_23 hk1 hr3 dX5_phraseNumbered_15 ?_
      obtain ⟨hk4, h⟩ := h
      refine wm_alen C (Or.inr (Or.inr (Or.inl hk4))) dX5_phraseNumbered_18 ?_
      refine wm_icmp_gt C 33 dX5_phraseNumbered_19 (by decide) (fun q => ?_) (fun q => ?_)
      · replace h := h.1 q
        refine wm_null C dX5_phraseNumbered_33 ?_
        exact wm_aret (r := none) C hr (Nat.le_of_ble_eq_true rfl) (Nat.le_of_ble_eq_true rfl) ⟨rfl, rfl, rfl, rfl, rfl, _, rfl, h⟩ dX5_phraseNumbered_34
      · replace h := h.2 q
        refine wm_aload_n C rfl dX5_phraseNumbered_22 ?_
        refine wm_getR C fqX5_23 hk1 hr3 dX5_phraseNumbered_23 ?_
        refine wm_iload_n C rfl dX5_phraseNumbered_26 ?_
        refine wm_iconst C 1 dX5_phraseNumbered_27 ?_ (by decide)
        refine wm_isub C dX5_phraseNumbered_28 ?_
        obtain ⟨hi5, h⟩ := h
        obtain ⟨b6, hr7, h⟩ := h
        refine wm_aald (t := 3) C (by decide) (by decide) hk4 hi5 hr7 dX5_phraseNumbered_29 ?_
        refine wm_goto C 34 dX5_phraseNumbered_30 ?_ (by decide)
        exact wm_aret (r := (some b6)) C hr (Nat.le_of_ble_eq_true rfl) (Nat.le_of_ble_eq_true rfl) ⟨rfl, rfl, rfl, rfl, rfl, _, rfl, h⟩ dX5_phraseNumbered_34
set_option maxRecDepth 100000 in
set_option maxHeartbeats 4000000 in
theorem sX5_phraseNumbered {l : Launch} {G : Gx} {d : Nat} {K N : TK} {I : TI} {R : TR} {L : TL} {sz : Nat} {φ : Option Nat → TI → Prop} {a0 : Nat} {x1 : Int32}
    (h : ((x1 < 1 → φ none I) ∧ (¬ x1 < 1 → K a0 = 16 ∧ (((I a0 5) < x1 → φ none I) ∧ (¬ (I a0 5) < x1 → ∃ b2, R a0 2 = some b2 ∧ K b2 = 23 ∧ (((nI (N b2)) < x1 → φ none I) ∧ (¬ (nI (N b2)) < x1 → vp_in (x1 - 1) (N b2) ∧ ∃ b6, R b2 (Int32.toNatClampNeg (x1 - 1)) = some b6 ∧ φ (some b6) I))))))) :
    MtR l G yX5_phraseNumbered cX5_phraseNumbered 2 (some (.object "CopyReplace$Phrase")) d [.ref a0, .int x1] K N I R L sz φ :=
  MetM.of (own := RX5) (by decide) rfl (catR (catI cat0)) (Nat.le_of_ble_eq_true rfl) (fun p e s m args below meth c C hr hnm => vX5_phraseNumbered_0 C hr h)
set_option maxRecDepth 100000 in
set_option maxHeartbeats 4000000 in
theorem vX5_statementOf_0 {p : Program} {l : Launch} {e : Env} {s : State} {m : MethodId} {args : Array Value} {below : List Frame} {meth : Method} {c : Code} {G : Gx} {d : Nat} {K N : TK} {I : TI} {R : TR} {L : TL} {sz : Nat} {φ : Option Nat → TI → Prop} (C : Cx p s m args meth c (AM K sz) G RX5 cX5_statementOf 2) (hr : meth.sig.returnType = (some (.object "CopyReplace$Statement"))) {a0 : Nat} {x1 : Int32}
    (h : (((-100) ≤ x1 → φ none I) ∧ (¬ (-100) ≤ x1 → K a0 = 16 ∧ ∃ φ2 : Option Nat → TI → Prop, MtR l G yX5_statementNumbered cX5_statementNumbered 2 (some (.object "CopyReplace$Statement")) d [.ref a0, .int ((-100) - x1)] K N I R L sz φ2 ∧ ∀ (r4 : Option Nat) (I5 : TI), φ2 r4 I5 → φ r4 I5))) :
    WR p l e s m args below meth c G (d + 1) φ K N R L sz 2 0 [(0, .ref a0), (1, .int x1)] I := by
  refine wm_iload_n C rfl dX5_statementOf_0 ?_
  refine wm_bipush C (-100) dX5_statementOf_1 ?_ (by decide)
  refine wm_icmp_ge C 17 dX5_statementOf_3 (by decide) (fun q => ?_) (fun q => ?_)
  · replace h := h.1 q
    refine wm_null C dX5_statementOf_17 ?_
    exact wm_aret (r := none) C hr (Nat.le_of_ble_eq_true rfl) (Nat.le_of_ble_eq_true rfl) ⟨rfl, rfl, rfl, rfl, rfl, _, rfl, h⟩ dX5_statementOf_18
  · replace h := h.2 q
    refine wm_aload_n C rfl dX5_statementOf_6 ?_
    refine wm_bipush C (-100) dX5_statementOf_7 ?_ (by decide)
    refine wm_iload_n C rfl dX5_statementOf_9 ?_
    refine wm_isub C dX5_statementOf_10 ?_
    obtain ⟨hk1, h⟩ := h
    obtain ⟨φ2, hM3, h⟩ := h
    refine wm_cVR1 C vqX5_72 hM3 hk1 ⟨Nat.le_refl _, Nat.le_refl _⟩ (Nat.le_of_ble_eq_true rfl) ⟨Nat.le_of_ble_eq_true rfl, Nat.le_of_ble_eq_true rfl⟩ dX5_statementOf_11 (fun r4 I5 hφ10 => ?_)
    replace h := h r4 I5 hφ10
    refine wm_goto C 18 dX5_statementOf_14 ?_ (by decide)
    exact wm_aret (r := r4) C hr (Nat.le_of_ble_eq_true rfl) (Nat.le_of_ble_eq_true rfl) ⟨rfl, rfl, rfl, rfl, rfl, _, rfl, h⟩ dX5_statementOf_18
set_option maxRecDepth 100000 in
set_option maxHeartbeats 4000000 in
theorem sX5_statementOf {l : Launch} {G : Gx} {d : Nat} {K N : TK} {I : TI} {R : TR} {L : TL} {sz : Nat} {φ : Option Nat → TI → Prop} {a0 : Nat} {x1 : Int32}
    (h : (((-100) ≤ x1 → φ none I) ∧ (¬ (-100) ≤ x1 → K a0 = 16 ∧ ∃ φ2 : Option Nat → TI → Prop, MtR l G yX5_statementNumbered cX5_statementNumbered 2 (some (.object "CopyReplace$Statement")) d [.ref a0, .int ((-100) - x1)] K N I R L sz φ2 ∧ ∀ (r4 : Option Nat) (I5 : TI), φ2 r4 I5 → φ r4 I5))) :
    MtR l G yX5_statementOf cX5_statementOf 2 (some (.object "CopyReplace$Statement")) (d + 1) [.ref a0, .int x1] K N I R L sz φ :=
  MetM.of (own := RX5) (by decide) rfl (catR (catI cat0)) (Nat.le_of_ble_eq_true rfl) (fun p e s m args below meth c C hr hnm => vX5_statementOf_0 C hr h)
