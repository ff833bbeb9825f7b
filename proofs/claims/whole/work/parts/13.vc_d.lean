set_option maxRecDepth 100000 in
set_option maxHeartbeats 4000000 in
theorem vX6_init_0 {p : Program} {l : Launch} {e : Env} {s : State} {m : MethodId} {args : Array Value} {below : List Frame} {meth : Method} {c : Code} {G : Gx} {d : Nat} {K N : TK} {I : TI} {R : TR} {L : TL} {sz : Nat} {φ : TK → TK → TI → TR → Nat → Prop} (C : Cx p s m args meth c (AM K sz) G RX6 cX6_init 1) (hr : meth.sig.returnType = none) (hnm : meth.name = "<init>") {a0 : Nat}
    (h : ∀ K1 : TK, K1 = va_up K sz 20 → ∀ N4 : TK, N4 = va_up N sz 13 → ∀ I2 : TI, I2 = va_up I sz (fun _ => 0) → ∀ z5 : Nat, z5 = sz + 1 → K1 a0 = 17 ∧ ∀ R7 : TR, R7 = u2 R a0 4 (some sz) → ∀ K8 : TK, K8 = va_up K1 z5 20 → ∀ N11 : TK, N11 = va_up N4 z5 13 → ∀ I9 : TI, I9 = va_up I2 z5 (fun _ => 0) → ∀ z12 : Nat, z12 = z5 + 1 → K8 a0 = 17 ∧ ∀ R14 : TR, R14 = u2 R7 a0 5 (some z5) → ∀ K15 : TK, K15 = va_up K8 z12 20 → ∀ N18 : TK, N18 = va_up N11 z12 2600 → ∀ I16 : TI, I16 = va_up I9 z12 (fun _ => 0) → ∀ z19 : Nat, z19 = z12 + 1 → K15 a0 = 17 ∧ ∀ R21 : TR, R21 = u2 R14 a0 6 (some z12) → ∀ K22 : TK, K22 = va_up K15 z19 20 → ∀ N25 : TK, N25 = va_up N18 z19 61 → ∀ I23 : TI, I23 = va_up I16 z19 (fun _ => 0) → ∀ z26 : Nat, z26 = z19 + 1 → K22 a0 = 17 ∧ ∀ R28 : TR, R28 = u2 R21 a0 7 (some z19) → ∀ K29 : TK, K29 = va_up K22 z26 20 → ∀ N32 : TK, N32 = va_up N25 z26 61 → ∀ I30 : TI, I30 = va_up I23 z26 (fun _ => 0) → ∀ z33 : Nat, z33 = z26 + 1 → K29 a0 = 17 ∧ ∀ R35 : TR, R35 = u2 R28 a0 8 (some z26) → ∀ K36 : TK, K36 = va_up K29 z33 20 → ∀ N39 : TK, N39 = va_up N32 z33 488 → ∀ I37 : TI, I37 = va_up I30 z33 (fun _ => 0) → ∀ z40 : Nat, z40 = z33 + 1 → K36 a0 = 17 ∧ ∀ R42 : TR, R42 = u2 R35 a0 9 (some z33) → ∀ K43 : TK, K43 = va_up K36 z40 21 → ∀ N46 : TK, N46 = va_up N39 z40 61 → ∀ I44 : TI, I44 = va_up I37 z40 (fun _ => 0) → ∀ z47 : Nat, z47 = z40 + 1 → K43 a0 = 17 ∧ ∀ R49 : TR, R49 = u2 R42 a0 10 (some z40) → ∀ K50 : TK, K50 = va_up K43 z47 21 → ∀ N53 : TK, N53 = va_up N46 z47 61 → ∀ I51 : TI, I51 = va_up I44 z47 (fun _ => 0) → ∀ z54 : Nat, z54 = z47 + 1 → K50 a0 = 17 ∧ ∀ R56 : TR, R56 = u2 R49 a0 11 (some z47) → ∀ K57 : TK, K57 = va_up K50 z54 20 → ∀ N60 : TK, N60 = va_up N53 z54 101 → ∀ I58 : TI, I58 = va_up I51 z54 (fun _ => 0) → ∀ z61 : Nat, z61 = z54 + 1 → K57 a0 = 17 ∧ ∀ R63 : TR, R63 = u2 R56 a0 12 (some z54) → ∀ K64 : TK, K64 = va_up K57 z61 20 → ∀ N67 : TK, N67 = va_up N60 z61 101 → ∀ I65 : TI, I65 = va_up I58 z61 (fun _ => 0) → ∀ z68 : Nat, z68 = z61 + 1 → K64 a0 = 17 ∧ ∀ R70 : TR, R70 = u2 R63 a0 13 (some z61) → ∀ K71 : TK, K71 = va_up K64 z68 20 → ∀ N74 : TK, N74 = va_up N67 z68 101 → ∀ I72 : TI, I72 = va_up I65 z68 (fun _ => 0) → ∀ z75 : Nat, z75 = z68 + 1 → K71 a0 = 17 ∧ ∀ R77 : TR, R77 = u2 R70 a0 14 (some z68) → ∀ K78 : TK, K78 = va_up K71 z75 20 → ∀ N81 : TK, N81 = va_up N74 z75 1010 → ∀ I79 : TI, I79 = va_up I72 z75 (fun _ => 0) → ∀ z82 : Nat, z82 = z75 + 1 → K78 a0 = 17 ∧ ∀ R84 : TR, R84 = u2 R77 a0 15 (some z75) → ∀ K85 : TK, K85 = va_up K78 z82 20 → ∀ N88 : TK, N88 = va_up N81 z82 1010 → ∀ I86 : TI, I86 = va_up I79 z82 (fun _ => 0) → ∀ z89 : Nat, z89 = z82 + 1 → K85 a0 = 17 ∧ ∀ R91 : TR, R91 = u2 R84 a0 16 (some z82) → ∀ K92 : TK, K92 = va_up K85 z89 20 → ∀ N95 : TK, N95 = va_up N88 z89 4530 → ∀ I93 : TI, I93 = va_up I86 z89 (fun _ => 0) → ∀ z96 : Nat, z96 = z89 + 1 → K92 a0 = 17 ∧ ∀ R98 : TR, R98 = u2 R91 a0 17 (some z89) → ∀ K99 : TK, K99 = va_up K92 z96 20 → ∀ N102 : TK, N102 = va_up N95 z96 4530 → ∀ I100 : TI, I100 = va_up I93 z96 (fun _ => 0) → ∀ z103 : Nat, z103 = z96 + 1 → K99 a0 = 17 ∧ ∀ R105 : TR, R105 = u2 R98 a0 18 (some z96) → ∀ K106 : TK, K106 = va_up K99 z103 20 → ∀ N109 : TK, N109 = va_up N102 z103 4530 → ∀ I107 : TI, I107 = va_up I100 z103 (fun _ => 0) → ∀ z110 : Nat, z110 = z103 + 1 → K106 a0 = 17 ∧ ∀ R112 : TR, R112 = u2 R105 a0 19 (some z103) → ∀ K113 : TK, K113 = va_up K106 z110 20 → ∀ N116 : TK, N116 = va_up N109 z110 4530 → ∀ I114 : TI, I114 = va_up I107 z110 (fun _ => 0) → ∀ z117 : Nat, z117 = z110 + 1 → K113 a0 = 17 ∧ ∀ R119 : TR, R119 = u2 R112 a0 20 (some z110) → ∀ K120 : TK, K120 = va_up K113 z117 20 → ∀ N123 : TK, N123 = va_up N116 z117 4530 → ∀ I121 : TI, I121 = va_up I114 z117 (fun _ => 0) → ∀ z124 : Nat, z124 = z117 + 1 → K120 a0 = 17 ∧ ∀ R126 : TR, R126 = u2 R119 a0 21 (some z117) → ∀ K127 : TK, K127 = va_up K120 z124 20 → ∀ N130 : TK, N130 = va_up N123 z124 4530 → ∀ I128 : TI, I128 = va_up I121 z124 (fun _ => 0) → ∀ z131 : Nat, z131 = z124 + 1 → K127 a0 = 17 ∧ ∀ R133 : TR, R133 = u2 R126 a0 22 (some z124) → ∀ K134 : TK, K134 = va_up K127 z131 20 → ∀ N137 : TK, N137 = va_up N130 z131 15 → ∀ I135 : TI, I135 = va_up I128 z131 (fun _ => 0) → ∀ z138 : Nat, z138 = z131 + 1 → K134 a0 = 17 ∧ ∀ R140 : TR, R140 = u2 R133 a0 23 (some z131) → ∀ K141 : TK, K141 = va_up K134 z138 20 → ∀ N144 : TK, N144 = va_up N137 z138 15 → ∀ I142 : TI, I142 = va_up I135 z138 (fun _ => 0) → ∀ z145 : Nat, z145 = z138 + 1 → K141 a0 = 17 ∧ ∀ R147 : TR, R147 = u2 R140 a0 24 (some z138) → ∀ K148 : TK, K148 = va_up K141 z145 20 → ∀ N151 : TK, N151 = va_up N144 z145 15 → ∀ I149 : TI, I149 = va_up I142 z145 (fun _ => 0) → ∀ z152 : Nat, z152 = z145 + 1 → K148 a0 = 17 ∧ ∀ R154 : TR, R154 = u2 R147 a0 25 (some z145) → ∀ K155 : TK, K155 = va_up K148 z152 20 → ∀ N158 : TK, N158 = va_up N151 z152 15 → ∀ I156 : TI, I156 = va_up I149 z152 (fun _ => 0) → ∀ z159 : Nat, z159 = z152 + 1 → K155 a0 = 17 ∧ ∀ R161 : TR, R161 = u2 R154 a0 26 (some z152) → ∀ K162 : TK, K162 = va_up K155 z159 20 → ∀ N165 : TK, N165 = va_up N158 z159 14 → ∀ I163 : TI, I163 = va_up I156 z159 (fun _ => 0) → ∀ z166 : Nat, z166 = z159 + 1 → K162 a0 = 17 ∧ ∀ R168 : TR, R168 = u2 R161 a0 33 (some z159) → φ K162 N165 I163 R168 z166) :
    Wm p l e (rmD (d + 1) 24 32935) s m args below meth c (MQ below (PoM G K sz (pAV K N R L sz φ)) args s 24 32935 (AM K sz)) (AM K sz) G 1 0 [(0, .ref a0)] [] K N I R L sz 0 0 := by
  refine wm_aload_n C rfl dX6_init_0 ?_
  refine wm_objInit C oqX6_1 ⟨by simp only [rmD]; omega, by simp only [rmD]; omega⟩ (Nat.le_of_ble_eq_true rfl) dX6_init_1 ?_
  refine wm_aload_n C rfl dX6_init_4 ?_
  refine wm_bipush C 13 dX6_init_5 ?_ (by decide)
  refine wm_newI C 13 ac_int (by decide) (by decide) (by decide) (Nat.le_of_ble_eq_true rfl) (Nat.le_of_ble_eq_true rfl) dX6_init_7 ?_
  refine nmKNI (fun K1 hK1 N4 hN4 I2 hI2 => ?_)
  replace h := h K1 hK1 N4 hN4 I2 hI2
  refine nmz (fun z5 hz5 => ?_)
  replace h := h z5 hz5
  obtain ⟨hk6, h⟩ := h
  refine wm_putFR C fqX6_7 hnm rfl hk6 rfl rfl dX6_init_9 ?_
  refine nmR (fun R7 hR7 => ?_)
  replace h := h R7 hR7
  refine wm_aload_n C rfl dX6_init_12 ?_
  refine wm_bipush C 13 dX6_init_13 ?_ (by decide)
  refine wm_newI C 13 ac_int (by decide) (by decide) (by decide) (Nat.le_of_ble_eq_true rfl) (Nat.le_of_ble_eq_true rfl) dX6_init_15 ?_
  refine nmKNI (fun K8 hK8 N11 hN11 I9 hI9 => ?_)
  replace h := h K8 hK8 N11 hN11 I9 hI9
  refine nmz (fun z12 hz12 => ?_)
  replace h := h z12 hz12
  obtain ⟨hk13, h⟩ := h
  refine wm_putFR C fqX6_13 hnm rfl hk13 rfl rfl dX6_init_17 ?_
  refine nmR (fun R14 hR14 => ?_)
  replace h := h R14 hR14
  refine wm_aload_n C rfl dX6_init_20 ?_
  refine wm_sipush C 2600 dX6_init_21 ?_ (by decide)
  refine wm_newI C 2600 ac_int (by decide) (by decide) (by decide) (Nat.le_of_ble_eq_true rfl) (Nat.le_of_ble_eq_true rfl) dX6_init_24 ?_
  refine nmKNI (fun K15 hK15 N18 hN18 I16 hI16 => ?_)
  replace h := h K15 hK15 N18 hN18 I16 hI16
  refine nmz (fun z19 hz19 => ?_)
  replace h := h z19 hz19
  obtain ⟨hk20, h⟩ := h
  refine wm_putFR C fqX6_16 hnm rfl hk20 rfl rfl dX6_init_26 ?_
  refine nmR (fun R21 hR21 => ?_)
  replace h := h R21 hR21
  refine wm_aload_n C rfl dX6_init_29 ?_
  refine wm_bipush C 61 dX6_init_30 ?_ (by decide)
  refine wm_newI C 61 ac_int (by decide) (by decide) (by decide) (Nat.le_of_ble_eq_true rfl) (Nat.le_of_ble_eq_true rfl) dX6_init_32 ?_
  refine nmKNI (fun K22 hK22 N25 hN25 I23 hI23 => ?_)
  replace h := h K22 hK22 N25 hN25 I23 hI23
  refine nmz (fun z26 hz26 => ?_)
  replace h := h z26 hz26
  obtain ⟨hk27, h⟩ := h
  refine wm_putFR C fqX6_19 hnm rfl hk27 rfl rfl dX6_init_34 ?_
  refine nmR (fun R28 hR28 => ?_)
  replace h := h R28 hR28
  refine wm_aload_n C rfl dX6_init_37 ?_
  refine wm_bipush C 61 dX6_init_38 ?_ (by decide)
  refine wm_newI C 61 ac_int (by decide) (by decide) (by decide) (Nat.le_of_ble_eq_true rfl) (Nat.le_of_ble_eq_true rfl) dX6_init_40 ?_
  refine nmKNI (fun K29 hK29 N32 hN32 I30 hI30 => ?_)
  replace h := h K29 hK29 N32 hN32 I30 hI30
  refine nmz (fun z33 hz33 => ?_)
  replace h := h z33 hz33
  obtain ⟨hk34, h⟩ := h
  refine wm_putFR C fqX6_22 hnm rfl hk34 rfl rfl dX6_init_42 ?_
  refine nmR (fun R35 hR35 => ?_)
  replace h := h R35 hR35
  refine wm_aload_n C rfl dX6_init_45 ?_
  refine wm_sipush C 488 dX6_init_46 ?_ (by decide)
  refine wm_newI C 488 ac_int (by decide) (by decide) (by decide) (Nat.le_of_ble_eq_true rfl) (Nat.le_of_ble_eq_true rfl) dX6_init_49 ?_
  refine nmKNI (fun K36 hK36 N39 hN39 I37 hI37 => ?_)
  replace h := h K36 hK36 N39 hN39 I37 hI37
  refine nmz (fun z40 hz40 => ?_)
  replace h := h z40 hz40
  obtain ⟨hk41, h⟩ := h
  refine wm_putFR C fqX6_25 hnm rfl hk41 rfl rfl dX6_init_51 ?_
  refine nmR (fun R42 hR42 => ?_)
  replace h := h R42 hR42
  refine wm_aload_n C rfl dX6_init_54 ?_
  refine wm_bipush C 61 dX6_init_55 ?_ (by decide)
  refine wm_newZ C 61 ac_boolean (by decide) (by decide) (by decide) (Nat.le_of_ble_eq_true rfl) (Nat.le_of_ble_eq_true rfl) dX6_init_57 ?_
  refine nmKNI (fun K43 hK43 N46 hN46 I44 hI44 => ?_)
  replace h := h K43 hK43 N46 hN46 I44 hI44
  refine nmz (fun z47 hz47 => ?_)
  replace h := h z47 hz47
  obtain ⟨hk48, h⟩ := h
  refine wm_putFR C fqX6_28 hnm rfl hk48 rfl rfl dX6_init_59 ?_
  refine nmR (fun R49 hR49 => ?_)
  replace h := h R49 hR49
  refine wm_aload_n C rfl dX6_init_62 ?_
  refine wm_bipush C 61 dX6_init_63 ?_ (by decide)
  refine wm_newZ C 61 ac_boolean (by decide) (by decide) (by decide) (Nat.le_of_ble_eq_true rfl) (Nat.le_of_ble_eq_true rfl) dX6_init_65 ?_
  refine nmKNI (fun K50 hK50 N53 hN53 I51 hI51 => ?_)
  replace h := h K50 hK50 N53 hN53 I51 hI51
  refine nmz (fun z54 hz54 => ?_)
  replace h := h z54 hz54
  obtain ⟨hk55, h⟩ := h
  refine wm_putFR C fqX6_32 hnm rfl hk55 rfl rfl dX6_init_67 ?_
  refine nmR (fun R56 hR56 => ?_)
  replace h := h R56 hR56
  refine wm_aload_n C rfl dX6_init_70 ?_
  refine wm_bipush C 101 dX6_init_71 ?_ (by decide)
  refine wm_newI C 101 ac_int (by decide) (by decide) (by decide) (Nat.le_of_ble_eq_true rfl) (Nat.le_of_ble_eq_true rfl) dX6_init_73 ?_
  refine nmKNI (fun K57 hK57 N60 hN60 I58 hI58 => ?_)
  replace h := h K57 hK57 N60 hN60 I58 hI58
  refine nmz (fun z61 hz61 => ?_)
  replace h := h z61 hz61
  obtain ⟨hk62, h⟩ := h
  refine wm_putFR C fqX6_35 hnm rfl hk62 rfl rfl dX6_init_75 ?_
  refine nmR (fun R63 hR63 => ?_)
  replace h := h R63 hR63
  refine wm_aload_n C rfl dX6_init_78 ?_
  refine wm_bipush C 101 dX6_init_79 ?_ (by decide)
  refine wm_newI C 101 ac_int (by decide) (by decide) (by decide) (Nat.le_of_ble_eq_true rfl) (Nat.le_of_ble_eq_true rfl) dX6_init_81 ?_
  refine nmKNI (fun K64 hK64 N67 hN67 I65 hI65 => ?_)
  replace h := h K64 hK64 N67 hN67 I65 hI65
  refine nmz (fun z68 hz68 => ?_)
  replace h := h z68 hz68
  obtain ⟨hk69, h⟩ := h
  refine wm_putFR C fqX6_38 hnm rfl hk69 rfl rfl dX6_init_83 ?_
  refine nmR (fun R70 hR70 => ?_)
  replace h := h R70 hR70
  refine wm_aload_n C rfl dX6_init_86 ?_
  refine wm_bipush C 101 dX6_init_87 ?_ (by decide)
  refine wm_newI C 101 ac_int (by decide) (by decide) (by decide) (Nat.le_of_ble_eq_true rfl) (Nat.le_of_ble_eq_true rfl) dX6_init_89 ?_
  refine nmKNI (fun K71 hK71 N74 hN74 I72 hI72 => ?_)
  replace h := h K71 hK71 N74 hN74 I72 hI72
  refine nmz (fun z75 hz75 => ?_)
  replace h := h z75 hz75
  obtain ⟨hk76, h⟩ := h
  refine wm_putFR C fqX6_41 hnm rfl hk76 rfl rfl dX6_init_91 ?_
  refine nmR (fun R77 hR77 => ?_)
  replace h := h R77 hR77
  refine wm_aload_n C rfl dX6_init_94 ?_
  refine wm_sipush C 1010 dX6_init_95 ?_ (by decide)
  refine wm_newI C 1010 ac_int (by decide) (by decide) (by decide) (Nat.le_of_ble_eq_true rfl) (Nat.le_of_ble_eq_true rfl) dX6_init_98 ?_
  refine nmKNI (fun K78 hK78 N81 hN81 I79 hI79 => ?_)
  replace h := h K78 hK78 N81 hN81 I79 hI79
  refine nmz (fun z82 hz82 => ?_)
  replace h := h z82 hz82
  obtain ⟨hk83, h⟩ := h
  refine wm_putFR C fqX6_44 hnm rfl hk83 rfl rfl dX6_init_100 ?_
  refine nmR (fun R84 hR84 => ?_)
  replace h := h R84 hR84
  refine wm_aload_n C rfl dX6_init_103 ?_
  refine wm_sipush C 1010 dX6_init_104 ?_ (by decide)
  refine wm_newI C 1010 ac_int (by decide) (by decide) (by decide) (Nat.le_of_ble_eq_true rfl) (Nat.le_of_ble_eq_true rfl) dX6_init_107 ?_
  refine nmKNI (fun K85 hK85 N88 hN88 I86 hI86 => ?_)
  replace h := h K85 hK85 N88 hN88 I86 hI86
  refine nmz (fun z89 hz89 => ?_)
  replace h := h z89 hz89
  obtain ⟨hk90, h⟩ := h
  refine wm_putFR C fqX6_47 hnm rfl hk90 rfl rfl dX6_init_109 ?_
  refine nmR (fun R91 hR91 => ?_)
  replace h := h R91 hR91
  refine wm_aload_n C rfl dX6_init_112 ?_
  refine wm_sipush C 4530 dX6_init_113 ?_ (by decide)
  refine wm_newI C 4530 ac_int (by decide) (by decide) (by decide) (Nat.le_of_ble_eq_true rfl) (Nat.le_of_ble_eq_true rfl) dX6_init_116 ?_
  refine nmKNI (fun K92 hK92 N95 hN95 I93 hI93 => ?_)
  replace h := h K92 hK92 N95 hN95 I93 hI93
  refine nmz (fun z96 hz96 => ?_)
  replace h := h z96 hz96
  obtain ⟨hk97, h⟩ := h
  refine wm_putFR C fqX6_50 hnm rfl hk97 rfl rfl dX6_init_118 ?_
  refine nmR (fun R98 hR98 => ?_)
  replace h := h R98 hR98
  refine wm_aload_n C rfl dX6_init_121 ?_
  refine wm_sipush C 4530 dX6_init_122 ?_ (by decide)
  refine wm_newI C 4530 ac_int (by decide) (by decide) (by decide) (Nat.le_of_ble_eq_true rfl) (Nat.le_of_ble_eq_true rfl) dX6_init_125 ?_
  refine nmKNI (fun K99 hK99 N102 hN102 I100 hI100 => ?_)
  replace h := h K99 hK99 N102 hN102 I100 hI100
  refine nmz (fun z103 hz103 => ?_)
  replace h := h z103 hz103
  obtain ⟨hk104, h⟩ := h
  refine wm_putFR C fqX6_53 hnm rfl hk104 rfl rfl dX6_init_127 ?_
  refine nmR (fun R105 hR105 => ?_)
  replace h := h R105 hR105
  refine wm_aload_n C rfl dX6_init_130 ?_
  refine wm_sipush C 4530 dX6_init_131 ?_ (by decide)
  refine wm_newI C 4530 ac_int (by decide) (by decide) (by decide) (Nat.le_of_ble_eq_true rfl) (Nat.le_of_ble_eq_true rfl) dX6_init_134 ?_
  refine nmKNI (fun K106 hK106 N109 hN109 I107 hI107 => ?_)
  replace h := h K106 hK106 N109 hN109 I107 hI107
  refine nmz (fun z110 hz110 => ?_)
  replace h := h z110 hz110
  obtain ⟨hk111, h⟩ := h
  refine wm_putFR C fqX6_56 hnm rfl hk111 rfl rfl dX6_init_136 ?_
  refine nmR (fun R112 hR112 => ?_)
  replace h := h R112 hR112
  refine wm_aload_n C rfl dX6_init_139 ?_
  refine wm_sipush C 4530 dX6_init_140 ?_ (by decide)
  refine wm_newI C 4530 ac_int (by decide) (by decide) (by decide) (Nat.le_of_ble_eq_true rfl) (Nat.le_of_ble_eq_true rfl) dX6_init_143 ?_
  refine nmKNI (fun K113 hK113 N116 hN116 I114 hI114 => ?_)
  replace h := h K113 hK113 N116 hN116 I114 hI114
  refine nmz (fun z117 hz117 => ?_)
  replace h := h z117 hz117
  obtain ⟨hk118, h⟩ := h
  refine wm_putFR C fqX6_59 hnm rfl hk118 rfl rfl dX6_init_145 ?_
  refine nmR (fun R119 hR119 => ?_)
  replace h := h R119 hR119
  refine wm_aload_n C rfl dX6_init_148 ?_
  refine wm_sipush C 4530 dX6_init_149 ?_ (by decide)
  refine wm_newI C 4530 ac_int (by decide) (by decide) (by decide) (Nat.le_of_ble_eq_true rfl) (Nat.le_of_ble_eq_true rfl) dX6_init_152 ?_
  refine nmKNI (fun K120 hK120 N123 hN123 I121 hI121 => ?_)
  replace h := h K120 hK120 N123 hN123 I121 hI121
  refine nmz (fun z124 hz124 => ?_)
  replace h := h z124 hz124
  obtain ⟨hk125, h⟩ := h
  refine wm_putFR C fqX6_62 hnm rfl hk125 rfl rfl dX6_init_154 ?_
  refine nmR (fun R126 hR126 => ?_)
  replace h := h R126 hR126
  refine wm_aload_n C rfl dX6_init_157 ?_
  refine wm_sipush C 4530 dX6_init_158 ?_ (by decide)
  refine wm_newI C 4530 ac_int (by decide) (by decide) (by decide) (Nat.le_of_ble_eq_true rfl) (Nat.le_of_ble_eq_true rfl) dX6_init_161 ?_
  refine nmKNI (fun K127 hK127 N130 hN130 I128 hI128 => ?_)
  replace h := h K127 hK127 N130 hN130 I128 hI128
  refine nmz (fun z131 hz131 => ?_)
  replace h := h z131 hz131
  obtain ⟨hk132, h⟩ := h
  refine wm_putFR C fqX6_65 hnm rfl hk132 rfl rfl dX6_init_163 ?_
  refine nmR (fun R133 hR133 => ?_)
  replace h := h R133 hR133
  refine wm_aload_n C rfl dX6_init_166 ?_
  refine wm_bipush C 15 dX6_init_167 ?_ (by decide)
  refine wm_newI C 15 ac_int (by decide) (by decide) (by decide) (Nat.le_of_ble_eq_true rfl) (Nat.le_of_ble_eq_true rfl) dX6_init_169 ?_
  refine nmKNI (fun K134 hK134 N137 hN137 I135 hI135 => ?_)
  replace h := h K134 hK134 N137 hN137 I135 hI135
  refine nmz (fun z138 hz138 => ?_)
  replace h := h z138 hz138
  obtain ⟨hk139, h⟩ := h
  refine wm_putFR C fqX6_68 hnm rfl hk139 rfl rfl dX6_init_171 ?_
  refine nmR (fun R140 hR140 => ?_)
  replace h := h R140 hR140
  refine wm_aload_n C rfl dX6_init_174 ?_
  refine wm_bipush C 15 dX6_init_175 ?_ (by decide)
  refine wm_newI C 15 ac_int (by decide) (by decide) (by decide) (Nat.le_of_ble_eq_true rfl) (Nat.le_of_ble_eq_true rfl) dX6_init_177 ?_
  refine nmKNI (fun K141 hK141 N144 hN144 I142 hI142 => ?_)
  replace h := h K141 hK141 N144 hN144 I142 hI142
  refine nmz (fun z145 hz145 => ?_)
  replace h := h z145 hz145
  obtain ⟨hk146, h⟩ := h
  refine wm_putFR C fqX6_71 hnm rfl hk146 rfl rfl dX6_init_179 ?_
  refine nmR (fun R147 hR147 => ?_)
  replace h := h R147 hR147
  refine wm_aload_n C rfl dX6_init_182 ?_
  refine wm_bipush C 15 dX6_init_183 ?_ (by decide)
  refine wm_newI C 15 ac_int (by decide) (by decide) (by decide) (Nat.le_of_ble_eq_true rfl) (Nat.le_of_ble_eq_true rfl) dX6_init_185 ?_
  refine nmKNI (fun K148 hK148 N151 hN151 I149 hI149 => ?_)
  replace h := h K148 hK148 N151 hN151 I149 hI149
  refine nmz (fun z152 hz152 => ?_)
  replace h := h z152 hz152
  obtain ⟨hk153, h⟩ := h
  refine wm_putFR C fqX6_74 hnm rfl hk153 rfl rfl dX6_init_187 ?_
  refine nmR (fun R154 hR154 => ?_)
  replace h := h R154 hR154
  refine wm_aload_n C rfl dX6_init_190 ?_
  refine wm_bipush C 15 dX6_init_191 ?_ (by decide)
  refine wm_newI C 15 ac_int (by decide) (by decide) (by decide) (Nat.le_of_ble_eq_true rfl) (Nat.le_of_ble_eq_true rfl) dX6_init_193 ?_
  refine nmKNI (fun K155 hK155 N158 hN158 I156 hI156 => ?_)
  replace h := h K155 hK155 N158 hN158 I156 hI156
  refine nmz (fun z159 hz159 => ?_)
  replace h := h z159 hz159
  obtain ⟨hk160, h⟩ := h
  refine wm_putFR C fqX6_77 hnm rfl hk160 rfl rfl dX6_init_195 ?_
  refine nmR (fun R161 hR161 => ?_)
  replace h := h R161 hR161
  refine wm_aload_n C rfl dX6_init_198 ?_
  refine wm_bipush C 14 dX6_init_199 ?_ (by decide)
  refine wm_newI C 14 ac_int (by decide) (by decide) (by decide) (Nat.le_of_ble_eq_true rfl) (Nat.le_of_ble_eq_true rfl) dX6_init_201 ?_
  refine nmKNI (fun K162 hK162 N165 hN165 I163 hI163 => ?_)
  replace h := h K162 hK162 N165 hN165 I163 hI163
  refine nmz (fun z166 hz166 => ?_)
  replace h := h z166 hz166
  obtain ⟨hk167, h⟩ := h
  refine wm_putFR C fqX6_80 hnm rfl hk167 rfl rfl dX6_init_203 ?_
  refine nmR (fun R168 hR168 => ?_)
  replace h := h R168 hR168
  exact wm_vret C hr (Nat.le_of_ble_eq_true rfl) (Nat.le_of_ble_eq_true rfl) ⟨rfl, rfl, h⟩ dX6_init_206
set_option maxRecDepth 100000 in
set_option maxHeartbeats 4000000 in
theorem sX6_init {l : Launch} {G : Gx} {d : Nat} {K N : TK} {I : TI} {R : TR} {L : TL} {sz : Nat} {φ : TK → TK → TI → TR → Nat → Prop} {a0 : Nat}
    (h : ∀ K1 : TK, K1 = va_up K sz 20 → ∀ N4 : TK, N4 = va_up N sz 13 → ∀ I2 : TI, I2 = va_up I sz (fun _ => 0) → ∀ z5 : Nat, z5 = sz + 1 → K1 a0 = 17 ∧ ∀ R7 : TR, R7 = u2 R a0 4 (some sz) → ∀ K8 : TK, K8 = va_up K1 z5 20 → ∀ N11 : TK, N11 = va_up N4 z5 13 → ∀ I9 : TI, I9 = va_up I2 z5 (fun _ => 0) → ∀ z12 : Nat, z12 = z5 + 1 → K8 a0 = 17 ∧ ∀ R14 : TR, R14 = u2 R7 a0 5 (some z5) → ∀ K15 : TK, K15 = va_up K8 z12 20 → ∀ N18 : TK, N18 = va_up N11 z12 2600 → ∀ I16 : TI, I16 = va_up I9 z12 (fun _ => 0) → ∀ z19 : Nat, z19 = z12 + 1 → K15 a0 = 17 ∧ ∀ R21 : TR, R21 = u2 R14 a0 6 (some z12) → ∀ K22 : TK, K22 = va_up K15 z19 20 → ∀ N25 : TK, N25 = va_up N18 z19 61 → ∀ I23 : TI, I23 = va_up I16 z19 (fun _ => 0) → ∀ z26 : Nat, z26 = z19 + 1 → K22 a0 = 17 ∧ ∀ R28 : TR, R28 = u2 R21 a0 7 (some z19) → ∀ K29 : TK, K29 = va_up K22 z26 20 → ∀ N32 : TK, N32 = va_up N25 z26 61 → ∀ I30 : TI, I30 = va_up I23 z26 (fun _ => 0) → ∀ z33 : Nat, z33 = z26 + 1 → K29 a0 = 17 ∧ ∀ R35 : TR, R35 = u2 R28 a0 8 (some z26) → ∀ K36 : TK, K36 = va_up K29 z33 20 → ∀ N39 : TK, N39 = va_up N32 z33 488 → ∀ I37 : TI, I37 = va_up I30 z33 (fun _ => 0) → ∀ z40 : Nat, z40 = z33 + 1 → K36 a0 = 17 ∧ ∀ R42 : TR, R42 = u2 R35 a0 9 (some z33) → ∀ K43 : TK, K43 = va_up K36 z40 21 → ∀ N46 : TK, N46 = va_up N39 z40 61 → ∀ I44 : TI, I44 = va_up I37 z40 (fun _ => 0) → ∀ z47 : Nat, z47 = z40 + 1 → K43 a0 = 17 ∧ ∀ R49 : TR, R49 = u2 R42 a0 10 (some z40) → ∀ K50 : TK, K50 = va_up K43 z47 21 → ∀ N53 : TK, N53 = va_up N46 z47 61 → ∀ I51 : TI, I51 = va_up I44 z47 (fun _ => 0) → ∀ z54 : Nat, z54 = z47 + 1 → K50 a0 = 17 ∧ ∀ R56 : TR, R56 = u2 R49 a0 11 (some z47) → ∀ K57 : TK, K57 = va_up K50 z54 20 → ∀ N60 : TK, N60 = va_up N53 z54 101 → ∀ I58 : TI, I58 = va_up I51 z54 (fun _ => 0) → ∀ z61 : Nat, z61 = z54 + 1 → K57 a0 = 17 ∧ ∀ R63 : TR, R63 = u2 R56 a0 12 (some z54) → ∀ K64 : TK, K64 = va_up K57 z61 20 → ∀ N67 : TK, N67 = va_up N60 z61 101 → ∀ I65 : TI, I65 = va_up I58 z61 (fun _ => 0) → ∀ z68 : Nat, z68 = z61 + 1 → K64 a0 = 17 ∧ ∀ R70 : TR, R70 = u2 R63 a0 13 (some z61) → ∀ K71 : TK, K71 = va_up K64 z68 20 → ∀ N74 : TK, N74 = va_up N67 z68 101 → ∀ I72 : TI, I72 = va_up I65 z68 (fun _ => 0) → ∀ z75 : Nat, z75 = z68 + 1 → K71 a0 = 17 ∧ ∀ R77 : TR, R77 = u2 R70 a0 14 (some z68) → ∀ K78 : TK, K78 = va_up K71 z75 20 → ∀ N81 : TK, N81 = va_up N74 z75 1010 → ∀ I79 : TI, I79 = va_up I72 z75 (fun _ => 0) → ∀ z82 : Nat, z82 = z75 + 1 → K78 a0 = 17 ∧ ∀ R84 : TR, R84 = u2 R77 a0 15 (some z75) → ∀ K85 : TK, K85 = va_up K78 z82 20 → ∀ N88 : TK, N88 = va_up N81 z82 1010 → ∀ I86 : TI, I86 = va_up I79 z82 (fun _ => 0) → ∀ z89 : Nat, z89 = z82 + 1 → K85 a0 = 17 ∧ ∀ R91 : TR, R91 = u2 R84 a0 16 (some z82) → ∀ K92 : TK, K92 = va_up K85 z89 20 → ∀ N95 : TK, N95 = va_up N88 z89 4530 → ∀ I93 : TI, I93 = va_up I86 z89 (fun _ => 0) → ∀ z96 : Nat, z96 = z89 + 1 → K92 a0 = 17 ∧ ∀ R98 : TR, R98 = u2 R91 a0 17 (some z89) → ∀ K99 : TK, K99 = va_up K92 z96 20 → ∀ N102 : TK, N102 = va_up N95 z96 4530 → ∀ I100 : TI, I100 = va_up I93 z96 (fun _ => 0) → ∀ z103 : Nat, z103 = z96 + 1 → K99 a0 = 17 ∧ ∀ R105 : TR, R105 = u2 R98 a0 18 (some z96) → ∀ K106 : TK, K106 = va_up K99 z103 20 → ∀ N109 : TK, N109 = va_up N102 z103 4530 → ∀ I107 : TI, I107 = va_up I100 z103 (fun _ => 0) → ∀ z110 : Nat, z110 = z103 + 1 → K106 a0 = 17 ∧ ∀ R112 : TR, R112 = u2 R105 a0 19 (some z103) → ∀ K113 : TK, K113 = va_up K106 z110 20 → ∀ N116 : TK, N116 = va_up N109 z110 4530 → ∀ I114 : TI, I114 = va_up I107 z110 (fun _ => 0) → ∀ z117 : Nat, z117 = z110 + 1 → K113 a0 = 17 ∧ ∀ R119 : TR, R119 = u2 R112 a0 20 (some z110) → ∀ K120 : TK, K120 = va_up K113 z117 20 → ∀ N123 : TK, N123 = va_up N116 z117 4530 → ∀ I121 : TI, I121 = va_up I114 z117 (fun _ => 0) → ∀ z124 : Nat, z124 = z117 + 1 → K120 a0 = 17 ∧ ∀ R126 : TR, R126 = u2 R119 a0 21 (some z117) → ∀ K127 : TK, K127 = va_up K120 z124 20 → ∀ N130 : TK, N130 = va_up N123 z124 4530 → ∀ I128 : TI, I128 = va_up I121 z124 (fun _ => 0) → ∀ z131 : Nat, z131 = z124 + 1 → K127 a0 = 17 ∧ ∀ R133 : TR, R133 = u2 R126 a0 22 (some z124) → ∀ K134 : TK, K134 = va_up K127 z131 20 → ∀ N137 : TK, N137 = va_up N130 z131 15 → ∀ I135 : TI, I135 = va_up I128 z131 (fun _ => 0) → ∀ z138 : Nat, z138 = z131 + 1 → K134 a0 = 17 ∧ ∀ R140 : TR, R140 = u2 R133 a0 23 (some z131) → ∀ K141 : TK, K141 = va_up K134 z138 20 → ∀ N144 : TK, N144 = va_up N137 z138 15 → ∀ I142 : TI, I142 = va_up I135 z138 (fun _ => 0) → ∀ z145 : Nat, z145 = z138 + 1 → K141 a0 = 17 ∧ ∀ R147 : TR, R147 = u2 R140 a0 24 (some z138) → ∀ K148 : TK, K148 = va_up K141 z145 20 → ∀ N151 : TK, N151 = va_up N144 z145 15 → ∀ I149 : TI, I149 = va_up I142 z145 (fun _ => 0) → ∀ z152 : Nat, z152 = z145 + 1 → K148 a0 = 17 ∧ ∀ R154 : TR, R154 = u2 R147 a0 25 (some z145) → ∀ K155 : TK, K155 = va_up K148 z152 20 → ∀ N158 : TK, N158 = va_up N151 z152 15 → ∀ I156 : TI, I156 = va_up I149 z152 (fun _ => 0) → ∀ z159 : Nat, z159 = z152 + 1 → K155 a0 = 17 ∧ ∀ R161 : TR, R161 = u2 R154 a0 26 (some z152) → ∀ K162 : TK, K162 = va_up K155 z159 20 → ∀ N165 : TK, N165 = va_up N158 z159 14 → ∀ I163 : TI, I163 = va_up I156 z159 (fun _ => 0) → ∀ z166 : Nat, z166 = z159 + 1 → K162 a0 = 17 ∧ ∀ R168 : TR, R168 = u2 R161 a0 33 (some z159) → φ K162 N165 I163 R168 z166) :
    MtAV l G yX6_init cX6_init 1 none (d + 1) 24 32935 [.ref a0] K N I R L sz φ :=
  MetM.of (own := RX6) (by decide) rfl (catR cat0) (Nat.le_of_ble_eq_true rfl) (fun p e s m args below meth c C hr hnm => vX6_init_0 C hr hnm h)
set_option maxRecDepth 100000 in
set_option maxHeartbeats 4000000 in
theorem vX6_thrown_0 {p : Program} {l : Launch} {e : Env} {s : State} {m : MethodId} {args : Array Value} {below : List Frame} {meth : Method} {c : Code} {G : Gx} {d : Nat} {K N : TK} {I : TI} {R : TR} {L : TL} {sz : Nat} {φ : Int32 → TI → Prop} (C : Cx p s m args meth c (AM K sz) G RX6 cX6_thrown 1) (hr : meth.sig.returnType = (some .int)) {a0 : Nat}
    (h : K a0 = 17 ∧ φ (I a0 0) I) :
    WI p l e s m args below meth c G d φ K N R L sz 1 0 [(0, .ref a0)] I := by
  refine wm_aload_n C rfl dX6_thrown_0 ?_
  obtain ⟨hk1, h⟩ := h
  refine wm_getI C fqX6_83 hk1 dX6_thrown_1 ?_
  exact wm_iret C hr rfl (Nat.le_of_ble_eq_true rfl) (Nat.le_of_ble_eq_true rfl) ⟨rfl, rfl, rfl, rfl, rfl, _, rfl, h⟩ dX6_thrown_4
set_option maxRecDepth 100000 in
set_option maxHeartbeats 4000000 in
theorem sX6_thrown {l : Launch} {G : Gx} {d : Nat} {K N : TK} {I : TI} {R : TR} {L : TL} {sz : Nat} {φ : Int32 → TI → Prop} {a0 : Nat}
    (h : K a0 = 17 ∧ φ (I a0 0) I) :
    MtI l G yX6_thrown cX6_thrown 1 (some .int) d [.ref a0] K N I R L sz φ :=
  MetM.of (own := RX6) (by decide) rfl (catR cat0) (Nat.le_of_ble_eq_true rfl) (fun p e s m args below meth c C hr hnm => vX6_thrown_0 C hr h)
set_option maxRecDepth 100000 in
set_option maxHeartbeats 4000000 in
theorem vX6_isWord_0 {p : Program} {l : Launch} {e : Env} {s : State} {m : MethodId} {args : Array Value} {below : List Frame} {meth : Method} {c : Code} {G : Gx} {d : Nat} {K N : TK} {I : TI} {R : TR} {L : TL} {sz : Nat} {φ : Int32 → TI → Prop} (C : Cx p s m args meth c (AM K sz) G RX6 cX6_isWord 2) (hr : meth.sig.returnType = (some .boolean)) {x0 : Int32}
    (h : ((x0 < 1 → φ 0 I) ∧ (¬ x0 < 1 → ((x0 < 387420489 → (WI p l e s m args below meth c G d φ K N R L sz 2 15 [(1, .int x0)] I)) ∧ (¬ x0 < 387420489 → φ 0 I))))) :
    WI p l e s m args below meth c G d φ K N R L sz 2 0 [(0, .int x0)] I := by
  refine wm_iload_n C rfl dX6_isWord_0 ?_
  refine wm_iconst C 1 dX6_isWord_1 ?_ (by decide)
  refine wm_icmp_lt C 11 dX6_isWord_2 (by decide) (fun q => ?_) (fun q => ?_)
  · replace h := h.1 q
    refine wm_iconst C 0 dX6_isWord_11 ?_ (by decide)
    exact wm_iret C hr rfl (Nat.le_of_ble_eq_true rfl) (Nat.le_of_ble_eq_true rfl) ⟨rfl, rfl, rfl, rfl, rfl, _, rfl, h⟩ dX6_isWord_12
  · replace h := h.2 q
    refine wm_iload_n C rfl dX6_isWord_5 ?_
    refine wm_ldc C _ lc_X6_87 dX6_isWord_6 ?_
    refine wm_icmp_lt C 13 dX6_isWord_8 (by decide) (fun q => ?_) (fun q => ?_)
    · replace h := h.1 q
      refine wm_iload_n C rfl dX6_isWord_13 ?_
      refine wm_istore_n C (by decide) dX6_isWord_14 ?_
      exact wm_pick [1] rfl h
    · replace h := h.2 q
      refine wm_iconst C 0 dX6_isWord_11 ?_ (by decide)
      exact wm_iret C hr rfl (Nat.le_of_ble_eq_true rfl) (Nat.le_of_ble_eq_true rfl) ⟨rfl, rfl, rfl, rfl, rfl, _, rfl, h⟩ dX6_isWord_12
set_option maxRecDepth 100000 in
set_option maxHeartbeats 4000000 in
theorem vX6_isWord_15 {p : Program} {l : Launch} {e : Env} {s : State} {m : MethodId} {args : Array Value} {below : List Frame} {meth : Method} {c : Code} {G : Gx} {d : Nat} {K N : TK} {I : TI} {R : TR} {L : TL} {sz : Nat} {φ : Int32 → TI → Prop} (C : Cx p s m args meth c (AM K sz) G RX6 cX6_isWord 2) (hr : meth.sig.returnType = (some .boolean)) {x1 : Int32}
    (h : ((x1 ≤ 0 → ((¬ x1 = 0 → φ 0 I) ∧ (x1 = 0 → φ 1 I))) ∧ (¬ x1 ≤ 0 → (((x1 - x1 / 27 * 27) ≤ 0 → ((¬ x1 = 0 → φ 0 I) ∧ (x1 = 0 → φ 1 I))) ∧ (¬ (x1 - x1 / 27 * 27) ≤ 0 → (WI p l e s m args below meth c G d φ K N R L sz 2 15 [(1, .int (x1 / 27))] I)))))) :
    WI p l e s m args below meth c G d φ K N R L sz 2 15 [(1, .int x1)] I := by
  refine wm_iload_n C rfl dX6_isWord_15 ?_
  refine wm_if_le C 34 dX6_isWord_16 (by decide) (fun q => ?_) (fun q => ?_)
  · replace h := h.1 q
    refine wm_iload_n C rfl dX6_isWord_34 ?_
    refine wm_if_ne C 42 dX6_isWord_35 (by decide) (fun q => ?_) (fun q => ?_)
    · replace h := h.1 q
      refine wm_iconst C 0 dX6_isWord_42 ?_ (by decide)
      exact wm_iret C hr rfl (Nat.le_of_ble_eq_true rfl) (Nat.le_of_ble_eq_true rfl) ⟨rfl, rfl, rfl, rfl, rfl, _, rfl, h⟩ dX6_isWord_43
    · replace h := h.2 q
      refine wm_iconst C 1 dX6_isWord_38 ?_ (by decide)
      refine wm_goto C 43 dX6_isWord_39 ?_ (by decide)
      exact wm_iret C hr rfl (Nat.le_of_ble_eq_true rfl) (Nat.le_of_ble_eq_true rfl) ⟨rfl, rfl, rfl, rfl, rfl, _, rfl, h⟩ dX6_isWord_43
  · replace h := h.2 q
    refine wm_iload_n C rfl dX6_isWord_19 ?_
    refine wm_bipush C 27 dX6_isWord_20 ?_ (by decide)
    refine wm_irem C (by decide) dX6_isWord_22 ?_
    refine wm_if_le C 34 dX6_isWord_23 (by decide) (fun q => ?_) (fun q => ?_)
    · replace h := h.1 q
      refine wm_iload_n C rfl dX6_isWord_34 ?_
      refine wm_if_ne C 42 dX6_isWord_35 (by decide) (fun q => ?_) (fun q => ?_)
      · replace h := h.1 q
        refine wm_iconst C 0 dX6_isWord_42 ?_ (by decide)
        exact wm_iret C hr rfl (Nat.le_of_ble_eq_true rfl) (Nat.le_of_ble_eq_true rfl) ⟨rfl, rfl, rfl, rfl, rfl, _, rfl, h⟩ dX6_isWord_43
      · replace h := h.2 q
        refine wm_iconst C 1 dX6_isWord_38 ?_ (by decide)
        refine wm_goto C 43 dX6_isWord_39 ?_ (by decide)
        exact wm_iret C hr rfl (Nat.le_of_ble_eq_true rfl) (Nat.le_of_ble_eq_true rfl) ⟨rfl, rfl, rfl, rfl, rfl, _, rfl, h⟩ dX6_isWord_43
    · replace h := h.2 q
      refine wm_iload_n C rfl dX6_isWord_26 ?_
      refine wm_bipush C 27 dX6_isWord_27 ?_ (by decide)
      refine wm_idiv C (by decide) dX6_isWord_29 ?_
      refine wm_istore_n C (by decide) dX6_isWord_30 ?_
      refine wm_goto C 15 dX6_isWord_31 ?_ (by decide)
      exact h
set_option maxRecDepth 100000 in
set_option maxHeartbeats 4000000 in
theorem sX6_isWord {l : Launch} {G : Gx} {d : Nat} {K N : TK} {I : TI} {R : TR} {L : TL} {sz : Nat} {φ : Int32 → TI → Prop} {x0 : Int32}
    (h : ∀ (p : Program) (e : Env) (s : State) (m : MethodId) (args : Array Value) (below : List Frame) (meth : Method) (c : Code), Cx p s m args meth c (AM K sz) G RX6 cX6_isWord 2 → meth.sig.returnType = (some .boolean) → ((x0 < 1 → φ 0 I) ∧ (¬ x0 < 1 → ((x0 < 387420489 → (WI p l e s m args below meth c G d φ K N R L sz 2 15 [(1, .int x0)] I)) ∧ (¬ x0 < 387420489 → φ 0 I))))) :
    MtI l G yX6_isWord cX6_isWord 2 (some .boolean) d [.int x0] K N I R L sz φ :=
  MetM.of (own := RX6) (by decide) rfl (catI cat0) (Nat.le_of_ble_eq_true rfl) (fun p e s m args below meth c C hr hnm => vX6_isWord_0 C hr (h p e s m args below meth c C hr))
set_option maxRecDepth 100000 in
set_option maxHeartbeats 4000000 in
theorem vX6_isText_0 {p : Program} {l : Launch} {e : Env} {s : State} {m : MethodId} {args : Array Value} {below : List Frame} {meth : Method} {c : Code} {G : Gx} {d : Nat} {K N : TK} {I : TI} {R : TR} {L : TL} {sz : Nat} {φ : Int32 → TI → Prop} (C : Cx p s m args meth c (AM K sz) G RX6 cX6_isText 2) (hr : meth.sig.returnType = (some .boolean)) {a0 : Nat} {x1 : Int32}
    (h : ((x1 < 0 → φ 0 I) ∧ (¬ x1 < 0 → K a0 = 17 ∧ (((I a0 1) < x1 → φ 0 I) ∧ (¬ (I a0 1) < x1 → φ 1 I))))) :
    WI p l e s m args below meth c G d φ K N R L sz 2 0 [(0, .ref a0), (1, .int x1)] I := by
  refine wm_iload_n C rfl dX6_isText_0 ?_
  refine wm_if_lt C 16 dX6_isText_1 (by decide) (fun q => ?_) (fun q => ?_)
  · replace h := h.1 q
    refine wm_iconst C 0 dX6_isText_16 ?_ (by decide)
    exact wm_iret C hr rfl (Nat.le_of_ble_eq_true rfl) (Nat.le_of_ble_eq_true rfl) ⟨rfl, rfl, rfl, rfl, rfl, _, rfl, h⟩ dX6_isText_17
  · replace h := h.2 q
    refine wm_iload_n C rfl dX6_isText_4 ?_
    refine wm_aload_n C rfl dX6_isText_5 ?_
    obtain ⟨hk1, h⟩ := h
    refine wm_getI C fqX6_88 hk1 dX6_isText_6 ?_
    refine wm_icmp_gt C 16 dX6_isText_9 (by decide) (fun q => ?_) (fun q => ?_)
    · replace h := h.1 q
      refine wm_iconst C 0 dX6_isText_16 ?_ (by decide)
      exact wm_iret C hr rfl (Nat.le_of_ble_eq_true rfl) (Nat.le_of_ble_eq_true rfl) ⟨rfl, rfl, rfl, rfl, rfl, _, rfl, h⟩ dX6_isText_17
    · replace h := h.2 q
      refine wm_iconst C 1 dX6_isText_12 ?_ (by decide)
      refine wm_goto C 17 dX6_isText_13 ?_ (by decide)
      exact wm_iret C hr rfl (Nat.le_of_ble_eq_true rfl) (Nat.le_of_ble_eq_true rfl) ⟨rfl, rfl, rfl, rfl, rfl, _, rfl, h⟩ dX6_isText_17
set_option maxRecDepth 100000 in
set_option maxHeartbeats 4000000 in
theorem sX6_isText {l : Launch} {G : Gx} {d : Nat} {K N : TK} {I : TI} {R : TR} {L : TL} {sz : Nat} {φ : Int32 → TI → Prop} {a0 : Nat} {x1 : Int32}
    (h : ((x1 < 0 → φ 0 I) ∧ (¬ x1 < 0 → K a0 = 17 ∧ (((I a0 1) < x1 → φ 0 I) ∧ (¬ (I a0 1) < x1 → φ 1 I))))) :
    MtI l G yX6_isText cX6_isText 2 (some .boolean) d [.ref a0, .int x1] K N I R L sz φ :=
  MetM.of (own := RX6) (by decide) rfl (catR (catI cat0)) (Nat.le_of_ble_eq_true rfl) (fun p e s m args below meth c C hr hnm => vX6_isText_0 C hr h)
set_option maxRecDepth 100000 in
set_option maxHeartbeats 4000000 in
theorem vX6_add_0 {p : Program} {l : Launch} {e : Env} {s : State} {m : MethodId} {args : Array Value} {below : List Frame} {meth : Method} {c : Code} {G : Gx} {d : Nat} {K N : TK} {I : TI} {R : TR} {L : TL} {sz : Nat} {φ : Int32 → TI → Prop} (C : Cx p s m args meth c (AM K sz) G RX6 cX6_add 3) (hr : meth.sig.returnType = (some .int)) {a0 : Nat} {x1 : Int32} {x2 : Int32}
    (h : K a0 = 17 ∧ ∃ b2, R a0 6 = some b2 ∧ ∃ b4, R a0 5 = some b4 ∧ K b4 = 20 ∧ vp_in x1 (N b4) ∧ K b2 = 20 ∧ vp_in ((200 * x1) + (I b4 (Int32.toNatClampNeg x1))) (N b2) ∧ ∀ I10 : TI, I10 = u2 I b2 (Int32.toNatClampNeg ((200 * x1) + (I b4 (Int32.toNatClampNeg x1)))) x2 → ∀ I11 : TI, I11 = u2 I10 b4 (Int32.toNatClampNeg x1) ((I10 b4 (Int32.toNatClampNeg x1)) + 1) → φ (I11 b4 (Int32.toNatClampNeg x1)) I11) :
    WI p l e s m args below meth c G d φ K N R L sz 3 0 [(0, .ref a0), (1, .int x1), (2, .int x2)] I := by
  refine wm_aload_n C rfl dX6_add_0 ?_
  obtain ⟨hk1, h⟩ := h
  obtain ⟨b2, hr3, h⟩ := h
  refine wm_getR C fqX6_16 hk1 hr3 dX6_add_1 ?_
  refine wm_sipush C 200 dX6_add_4 ?_ (by decide)
  refine wm_iload_n C rfl dX6_add_7 ?_
  refine wm_imul C dX6_add_8 ?_
  refine wm_aload_n C rfl dX6_add_9 ?_
  obtain ⟨b4, hr5, h⟩ := h
  refine wm_getR C fqX6_13 hk1 hr5 dX6_add_10 ?_
  refine wm_iload_n C rfl dX6_add_13 ?_
  obtain ⟨hk6, h⟩ := h
  obtain ⟨hi7, h⟩ := h
  refine wm_iald C hk6 hi7 dX6_add_14 ?_
  refine wm_iadd C dX6_add_15 ?_
  refine wm_iload_n C rfl dX6_add_16 ?_
  obtain ⟨hk8, h⟩ := h
  obtain ⟨hi9, h⟩ := h
  refine wm_iast C hk8 hi9 dX6_add_17 ?_
  refine nmI (fun I10 hI10 => ?_)
  replace h := h I10 hI10
  refine wm_aload_n C rfl dX6_add_18 ?_
  refine wm_getR C fqX6_13 hk1 hr5 dX6_add_19 ?_
  refine wm_iload_n C rfl dX6_add_22 ?_
  refine wm_dup2 C rfl rfl dX6_add_23 ?_
  refine wm_iald C hk6 hi7 dX6_add_24 ?_
  refine wm_iconst C 1 dX6_add_25 ?_ (by decide)
  refine wm_iadd C dX6_add_26 ?_
  refine wm_iast C hk6 hi7 dX6_add_27 ?_
  refine nmI (fun I11 hI11 => ?_)
  replace h := h I11 hI11
  refine wm_aload_n C rfl dX6_add_28 ?_
  refine wm_getR C fqX6_13 hk1 hr5 dX6_add_29 ?_
  refine wm_iload_n C rfl dX6_add_32 ?_
  refine wm_iald C hk6 hi7 dX6_add_33 ?_
  exact wm_iret C hr rfl (Nat.le_of_ble_eq_true rfl) (Nat.le_of_ble_eq_true rfl) ⟨rfl, rfl, rfl, rfl, rfl, _, rfl, h⟩ dX6_add_34
set_option maxRecDepth 100000 in
set_option maxHeartbeats 4000000 in
theorem sX6_add {l : Launch} {G : Gx} {d : Nat} {K N : TK} {I : TI} {R : TR} {L : TL} {sz : Nat} {φ : Int32 → TI → Prop} {a0 : Nat} {x1 : Int32} {x2 : Int32}
    (h : K a0 = 17 ∧ ∃ b2, R a0 6 = some b2 ∧ ∃ b4, R a0 5 = some b4 ∧ K b4 = 20 ∧ vp_in x1 (N b4) ∧ K b2 = 20 ∧ vp_in ((200 * x1) + (I b4 (Int32.toNatClampNeg x1))) (N b2) ∧ ∀ I10 : TI, I10 = u2 I b2 (Int32.toNatClampNeg ((200 * x1) + (I b4 (Int32.toNatClampNeg x1)))) x2 → ∀ I11 : TI, I11 = u2 I10 b4 (Int32.toNatClampNeg x1) ((I10 b4 (Int32.toNatClampNeg x1)) + 1) → φ (I11 b4 (Int32.toNatClampNeg x1)) I11) :
    MtI l G yX6_add cX6_add 3 (some .int) d [.ref a0, .int x1, .int x2] K N I R L sz φ :=
  MetM.of (own := RX6) (by decide) rfl (catR (catI (catI cat0))) (Nat.le_of_ble_eq_true rfl) (fun p e s m args below meth c C hr hnm => vX6_add_0 C hr h)
set_option maxRecDepth 100000 in
set_option maxHeartbeats 4000000 in
theorem vX6_library_0 {p : Program} {l : Launch} {e : Env} {s : State} {m : MethodId} {args : Array Value} {below : List Frame} {meth : Method} {c : Code} {G : Gx} {d : Nat} {K N : TK} {I : TI} {R : TR} {L : TL} {sz : Nat} {φ : Int32 → TI → Prop} (C : Cx p s m args meth c (AM K sz) G RX6 cX6_library 2) (hr : meth.sig.returnType = (some .int)) {a0 : Nat} {x1 : Int32}
    (h : K a0 = 17 ∧ ∀ I2 : TI, I2 = u2 I a0 0 0 → ((x1 < 0 → φ (-4) I2) ∧ (¬ x1 < 0 → ((x1 ≤ 99 → ((¬ (I2 a0 1) = 12 → ∀ I3 : TI, I3 = u2 I2 a0 1 ((I2 a0 1) + 1) → ∃ b4, R a0 4 = some b4 ∧ K b4 = 20 ∧ vp_in (I3 a0 1) (N b4) ∧ ∀ I8 : TI, I8 = u2 I3 b4 (Int32.toNatClampNeg (I3 a0 1)) x1 → φ (I8 a0 1) I8) ∧ ((I2 a0 1) = 12 → φ (-1) I2))) ∧ (¬ x1 ≤ 99 → φ (-4) I2))))) :
    WI p l e s m args below meth c G d φ K N R L sz 2 0 [(0, .ref a0), (1, .int x1)] I := by
  refine wm_aload_n C rfl dX6_library_0 ?_
  refine wm_iconst C 0 dX6_library_1 ?_ (by decide)
  obtain ⟨hk1, h⟩ := h
  refine wm_putI C fqX6_83 hk1 dX6_library_2 ?_
  refine nmI (fun I2 hI2 => ?_)
  replace h := h I2 hI2
  refine wm_iload_n C rfl dX6_library_5 ?_
  refine wm_if_lt C 15 dX6_library_6 (by decide) (fun q => ?_) (fun q => ?_)
  · replace h := h.1 q
    refine wm_bipush C (-4) dX6_library_15 ?_ (by decide)
    exact wm_iret C hr rfl (Nat.le_of_ble_eq_true rfl) (Nat.le_of_ble_eq_true rfl) ⟨rfl, rfl, rfl, rfl, rfl, _, rfl, h⟩ dX6_library_17
  · replace h := h.2 q
    refine wm_iload_n C rfl dX6_library_9 ?_
    refine wm_bipush C 99 dX6_library_10 ?_ (by decide)
    refine wm_icmp_le C 18 dX6_library_12 (by decide) (fun q => ?_) (fun q => ?_)
    · replace h := h.1 q
      refine wm_aload_n C rfl dX6_library_18 ?_
      refine wm_getI C fqX6_88 hk1 dX6_library_19 ?_
      refine wm_bipush C 12 dX6_library_22 ?_ (by decide)
      refine wm_icmp_ne C 29 dX6_library_24 (by decide) (fun q => ?_) (fun q => ?_)
      · replace h := h.1 q
        refine wm_aload_n C rfl dX6_library_29 ?_
        refine wm_dup C rfl dX6_library_30 ?_
        refine wm_getI C fqX6_88 hk1 dX6_library_31 ?_
        refine wm_iconst C 1 dX6_library_34 ?_ (by decide)
        refine wm_iadd C dX6_library_35 ?_
        refine wm_putI C fqX6_88 hk1 dX6_library_36 ?_
        refine nmI (fun I3 hI3 => ?_)
        replace h := h I3 hI3
        refine wm_aload_n C rfl dX6_library_39 ?_
        obtain ⟨b4, hr5, h⟩ := h
        refine wm_getR C fqX6_7 hk1 hr5 dX6_library_40 ?_
        refine wm_aload_n C rfl dX6_library_43 ?_
        refine wm_getI C fqX6_88 hk1 dX6_library_44 ?_
        refine wm_iload_n C rfl dX6_library_47 ?_
        obtain ⟨hk6, h⟩ := h
        obtain ⟨hi7, h⟩ := h
        refine wm_iast C hk6 hi7 dX6_library_48 ?_
        refine nmI (fun I8 hI8 => ?_)
        replace h := h I8 hI8
        refine wm_aload_n C rfl dX6_library_49 ?_
        refine wm_getI C fqX6_88 hk1 dX6_library_50 ?_
        exact wm_iret C hr rfl (Nat.le_of_ble_eq_true rfl) (Nat.le_of_ble_eq_true rfl) ⟨rfl, rfl, rfl, rfl, rfl, _, rfl, h⟩ dX6_library_53
      · replace h := h.2 q
        refine wm_iconst C (-1) dX6_library_27 ?_ (by decide)
        exact wm_iret C hr rfl (Nat.le_of_ble_eq_true rfl) (Nat.le_of_ble_eq_true rfl) ⟨rfl, rfl, rfl, rfl, rfl, _, rfl, h⟩ dX6_library_28
    · replace h := h.2 q
      refine wm_bipush C (-4) dX6_library_15 ?_ (by decide)
      exact wm_iret C hr rfl (Nat.le_of_ble_eq_true rfl) (Nat.le_of_ble_eq_true rfl) ⟨rfl, rfl, rfl, rfl, rfl, _, rfl, h⟩ dX6_library_17
set_option maxRecDepth 100000 in
set_option maxHeartbeats 4000000 in
theorem sX6_library {l : Launch} {G : Gx} {d : Nat} {K N : TK} {I : TI} {R : TR} {L : TL} {sz : Nat} {φ : Int32 → TI → Prop} {a0 : Nat} {x1 : Int32}
    (h : K a0 = 17 ∧ ∀ I2 : TI, I2 = u2 I a0 0 0 → ((x1 < 0 → φ (-4) I2) ∧ (¬ x1 < 0 → ((x1 ≤ 99 → ((¬ (I2 a0 1) = 12 → ∀ I3 : TI, I3 = u2 I2 a0 1 ((I2 a0 1) + 1) → ∃ b4, R a0 4 = some b4 ∧ K b4 = 20 ∧ vp_in (I3 a0 1) (N b4) ∧ ∀ I8 : TI, I8 = u2 I3 b4 (Int32.toNatClampNeg (I3 a0 1)) x1 → φ (I8 a0 1) I8) ∧ ((I2 a0 1) = 12 → φ (-1) I2))) ∧ (¬ x1 ≤ 99 → φ (-4) I2))))) :
    MtI l G yX6_library cX6_library 2 (some .int) d [.ref a0, .int x1] K N I R L sz φ :=
  MetM.of (own := RX6) (by decide) rfl (catR (catI cat0)) (Nat.le_of_ble_eq_true rfl) (fun p e s m args below meth c C hr hnm => vX6_library_0 C hr h)
set_option maxRecDepth 100000 in
set_option maxHeartbeats 4000000 in
theorem vX6_word_0 {p : Program} {l : Launch} {e : Env} {s : State} {m : MethodId} {args : Array Value} {below : List Frame} {meth : Method} {c : Code} {G : Gx} {d : Nat} {K N : TK} {I : TI} {R : TR} {L : TL} {sz : Nat} {φ : Int32 → TI → Prop} (C : Cx p s m args meth c (AM K sz) G RX6 cX6_word 3) (hr : meth.sig.returnType = (some .int)) {a0 : Nat} {x1 : Int32} {x2 : Int32}
    (h : K a0 = 17 ∧ ∀ I2 : TI, I2 = u2 I a0 0 0 → ∃ φ3 : Int32 → TI → Prop, MtI l G yX6_isText cX6_isText 2 (some .boolean) d [.ref a0, .int x1] K N I2 R L sz φ3 ∧ ∀ (r5 : Int32) (I6 : TI), φ3 r5 I6 → ((¬ r5 = 0 → ((x2 = 0 → ∃ b12, R a0 5 = some b12 ∧ K b12 = 20 ∧ vp_in x1 (N b12) ∧ ((¬ (I6 b12 (Int32.toNatClampNeg x1)) = 200 → ∃ φ16 : Int32 → TI → Prop, MtI l G yX6_add cX6_add 3 (some .int) d [.ref a0, .int x1, .int x2] K N I6 R L sz φ16 ∧ ∀ (r18 : Int32) (I19 : TI), φ16 r18 I19 → φ r18 I19) ∧ ((I6 b12 (Int32.toNatClampNeg x1)) = 200 → φ (-1) I6))) ∧ (¬ x2 = 0 → ((x2 = (-1) → ∃ b25, R a0 5 = some b25 ∧ K b25 = 20 ∧ vp_in x1 (N b25) ∧ ((¬ (I6 b25 (Int32.toNatClampNeg x1)) = 200 → ∃ φ29 : Int32 → TI → Prop, MtI l G yX6_add cX6_add 3 (some .int) d [.ref a0, .int x1, .int x2] K N I6 R L sz φ29 ∧ ∀ (r31 : Int32) (I32 : TI), φ29 r31 I32 → φ r31 I32) ∧ ((I6 b25 (Int32.toNatClampNeg x1)) = 200 → φ (-1) I6))) ∧ (¬ x2 = (-1) → ∃ φ38 : Int32 → TI → Prop, MtI l G yX6_isWord cX6_isWord 2 (some .boolean) d [.int x2] K N I6 R L sz φ38 ∧ ∀ (r40 : Int32) (I41 : TI), φ38 r40 I41 → ((¬ r40 = 0 → ∃ b47, R a0 5 = some b47 ∧ K b47 = 20 ∧ vp_in x1 (N b47) ∧ ((¬ (I41 b47 (Int32.toNatClampNeg x1)) = 200 → ∃ φ51 : Int32 → TI → Prop, MtI l G yX6_add cX6_add 3 (some .int) d [.ref a0, .int x1, .int x2] K N I41 R L sz φ51 ∧ ∀ (r53 : Int32) (I54 : TI), φ51 r53 I54 → φ r53 I54) ∧ ((I41 b47 (Int32.toNatClampNeg x1)) = 200 → φ (-1) I41))) ∧ (r40 = 0 → φ (-4) I41))))))) ∧ (r5 = 0 → φ (-2) I6))) :
    WI p l e s m args below meth c G (d + 1) φ K N R L sz 3 0 [(0, .ref a0), (1, .int x1), (2, .int x2)] I := by
  refine wm_aload_n C rfl dX6_word_0 ?_
  refine wm_iconst C 0 dX6_word_1 ?_ (by decide)
  obtain ⟨hk1, h⟩ := h
  refine wm_putI C fqX6_83 hk1 dX6_word_2 ?_
  refine nmI (fun I2 hI2 => ?_)
  replace h := h I2 hI2
  refine wm_aload_n C rfl dX6_word_5 ?_
  refine wm_iload_n C rfl dX6_word_6 ?_
  obtain ⟨φ3, hM4, h⟩ := h
  refine wm_cVI1 C vqX6_91 hM4 hk1 ⟨Nat.le_refl _, Nat.le_refl _⟩ (Nat.le_of_ble_eq_true rfl) ⟨Nat.le_of_ble_eq_true rfl, Nat.le_of_ble_eq_true rfl⟩ dX6_word_7 (fun r5 I6 hφ11 => ?_)
  replace h := h r5 I6 hφ11
  refine wm_if_ne C 16 dX6_word_10 (by decide) (fun q => ?_) (fun q => ?_)
  · replace h := h.1 q
    refine wm_iload_n C rfl dX6_word_16 ?_
    refine wm_if_eq C 35 dX6_word_17 (by decide) (fun q => ?_) (fun q => ?_)
    · replace h := h.1 q
      refine wm_aload_n C rfl dX6_word_35 ?_
      obtain ⟨b12, hr13, h⟩ := h
      refine wm_getR C fqX6_13 hk1 hr13 dX6_word_36 ?_
      refine wm_iload_n C rfl dX6_word_39 ?_
      obtain ⟨hk14, h⟩ := h
      obtain ⟨hi15, h⟩ := h
      refine wm_iald C hk14 hi15 dX6_word_40 ?_
      refine wm_sipush C 200 dX6_word_41 ?_ (by decide)
      refine wm_icmp_ne C 51 dX6_word_44 (by decide) (fun q => ?_) (fun q => ?_)
      · replace h := h.1 q
        refine wm_aload_n C rfl dX6_word_51 ?_
        refine wm_iload_n C rfl dX6_word_52 ?_
        refine wm_iload_n C rfl dX6_word_53 ?_
        obtain ⟨φ16, hM17, h⟩ := h
        refine wm_cVI2 C vqX6_98 hM17 hk1 ⟨Nat.le_refl _, Nat.le_refl _⟩ (Nat.le_of_ble_eq_true rfl) ⟨Nat.le_of_ble_eq_true rfl, Nat.le_of_ble_eq_true rfl⟩ dX6_word_54 (fun r18 I19 hφ24 => ?_)
        replace h := h r18 I19 hφ24
        exact wm_iret C hr rfl (Nat.le_of_ble_eq_true rfl) (Nat.le_of_ble_eq_true rfl) ⟨rfl, rfl, rfl, rfl, rfl, _, rfl, h⟩ dX6_word_57
      · replace h := h.2 q
        refine wm_iconst C (-1) dX6_word_47 ?_ (by decide)
        refine wm_goto C 57 dX6_word_48 ?_ (by decide)
        exact wm_iret C hr rfl (Nat.le_of_ble_eq_true rfl) (Nat.le_of_ble_eq_true rfl) ⟨rfl, rfl, rfl, rfl, rfl, _, rfl, h⟩ dX6_word_57
    · replace h := h.2 q
      refine wm_iload_n C rfl dX6_word_20 ?_
      refine wm_iconst C (-1) dX6_word_21 ?_ (by decide)
      refine wm_icmp_eq C 35 dX6_word_22 (by decide) (fun q => ?_) (fun q => ?_)
      · replace h := h.1 q
        refine wm_aload_n C rfl dX6_word_35 ?_
        obtain ⟨b25, hr26, h⟩ := h
        refine wm_getR C fqX6_13 hk1 hr26 dX6_word_36 ?_
        refine wm_iload_n C rfl dX6_word_39 ?_
        obtain ⟨hk27, h⟩ := h
        obtain ⟨hi28, h⟩ := h
        refine wm_iald C hk27 hi28 dX6_word_40 ?_
        refine wm_sipush C 200 dX6_word_41 ?_ (by decide)
        refine wm_icmp_ne C 51 dX6_word_44 (by decide) (fun q => ?_) (fun q => ?_)
        · replace h := h.1 q
          refine wm_aload_n C rfl dX6_word_51 ?_
          refine wm_iload_n C rfl dX6_word_52 ?_
          refine wm_iload_n C rfl dX6_word_53 ?_
          obtain ⟨φ29, hM30, h⟩ := h
          refine wm_cVI2 C vqX6_98 hM30 hk1 ⟨Nat.le_refl _, Nat.le_refl _⟩ (Nat.le_of_ble_eq_true rfl) ⟨Nat.le_of_ble_eq_true rfl, Nat.le_of_ble_eq_true rfl⟩ dX6_word_54 (fun r31 I32 hφ37 => ?_)
          replace h := h r31 I32 hφ37
          exact wm_iret C hr rfl (Nat.le_of_ble_eq_true rfl) (Nat.le_of_ble_eq_true rfl) ⟨rfl, rfl, rfl, rfl, rfl, _, rfl, h⟩ dX6_word_57
        · replace h := h.2 q
          refine wm_iconst C (-1) dX6_word_47 ?_ (by decide)
          refine wm_goto C 57 dX6_word_48 ?_ (by decide)
          exact wm_iret C hr rfl (Nat.le_of_ble_eq_true rfl) (Nat.le_of_ble_eq_true rfl) ⟨rfl, rfl, rfl, rfl, rfl, _, rfl, h⟩ dX6_word_57
      · replace h := h.2 q
        refine wm_iload_n C rfl dX6_word_25 ?_
        obtain ⟨φ38, hM39, h⟩ := h
        refine wm_cSI1 C sqX6_95 hM39 ⟨Nat.le_refl _, Nat.le_refl _⟩ (Nat.le_of_ble_eq_true rfl) ⟨Nat.le_of_ble_eq_true rfl, Nat.le_of_ble_eq_true rfl⟩ dX6_word_26 (fun r40 I41 hφ46 => ?_)
        replace h := h r40 I41 hφ46
        refine wm_if_ne C 35 dX6_word_29 (by decide) (fun q => ?_) (fun q => ?_)
        · replace h := h.1 q
          refine wm_aload_n C rfl dX6_word_35 ?_
          obtain ⟨b47, hr48, h⟩ := h
          refine wm_getR C fqX6_13 hk1 hr48 dX6_word_36 ?_
          refine wm_iload_n C rfl dX6_word_39 ?_
          obtain ⟨hk49, h⟩ := h
          obtain ⟨hi50, h⟩ := h
          refine wm_iald C hk49 hi50 dX6_word_40 ?_
          refine wm_sipush C 200 dX6_word_41 ?_ (by decide)
          refine wm_icmp_ne C 51 dX6_word_44 (by decide) (fun q => ?_) (fun q => ?_)
          · replace h := h.1 q
            refine wm_aload_n C rfl dX6_word_51 ?_
            refine wm_iload_n C rfl dX6_word_52 ?_
            refine wm_iload_n C rfl dX6_word_53 ?_
            obtain ⟨φ51, hM52, h⟩ := h
            refine wm_cVI2 C vqX6_98 hM52 hk1 ⟨Nat.le_refl _, Nat.le_refl _⟩ (Nat.le_of_ble_eq_true rfl) ⟨Nat.le_of_ble_eq_true rfl, Nat.le_of_ble_eq_true rfl⟩ dX6_word_54 (fun r53 I54 hφ59 => ?_)
            replace h := h r53 I54 hφ59
            exact wm_iret C hr rfl (Nat.le_of_ble_eq_true rfl) (Nat.le_of_ble_eq_true rfl) ⟨rfl, rfl, rfl, rfl, rfl, _, rfl, h⟩ dX6_word_57
          · replace h := h.2 q
            refine wm_iconst C (-1) dX6_word_47 ?_ (by decide)
            refine wm_goto C 57 dX6_word_48 ?_ (by decide)
            exact wm_iret C hr rfl (Nat.le_of_ble_eq_true rfl) (Nat.le_of_ble_eq_true rfl) ⟨rfl, rfl, rfl, rfl, rfl, _, rfl, h⟩ dX6_word_57
        · replace h := h.2 q
          refine wm_bipush C (-4) dX6_word_32 ?_ (by decide)
          exact wm_iret C hr rfl (Nat.le_of_ble_eq_true rfl) (Nat.le_of_ble_eq_true rfl) ⟨rfl, rfl, rfl, rfl, rfl, _, rfl, h⟩ dX6_word_34
  · replace h := h.2 q
    refine wm_bipush C (-2) dX6_word_13 ?_ (by decide)
    exact wm_iret C hr rfl (Nat.le_of_ble_eq_true rfl) (Nat.le_of_ble_eq_true rfl) ⟨rfl, rfl, rfl, rfl, rfl, _, rfl, h⟩ dX6_word_15
set_option maxRecDepth 100000 in
set_option maxHeartbeats 4000000 in
theorem sX6_word {l : Launch} {G : Gx} {d : Nat} {K N : TK} {I : TI} {R : TR} {L : TL} {sz : Nat} {φ : Int32 → TI → Prop} {a0 : Nat} {x1 : Int32} {x2 : Int32}
    (h : K a0 = 17 ∧ ∀ I2 : TI, I2 = u2 I a0 0 0 → ∃ φ3 : Int32 → TI → Prop, MtI l G yX6_isText cX6_isText 2 (some .boolean) d [.ref a0, .int x1] K N I2 R L sz φ3 ∧ ∀ (r5 : Int32) (I6 : TI), φ3 r5 I6 → ((¬ r5 = 0 → ((x2 = 0 → ∃ b12, R a0 5 = some b12 ∧ K b12 = 20 ∧ vp_in x1 (N b12) ∧ ((¬ (I6 b12 (Int32.toNatClampNeg x1)) = 200 → ∃ φ16 : Int32 → TI → Prop, MtI l G yX6_add cX6_add 3 (some .int) d [.ref a0, .int x1, .int x2] K N I6 R L sz φ16 ∧ ∀ (r18 : Int32) (I19 : TI), φ16 r18 I19 → φ r18 I19) ∧ ((I6 b12 (Int32.toNatClampNeg x1)) = 200 → φ (-1) I6))) ∧ (¬ x2 = 0 → ((x2 = (-1) → ∃ b25, R a0 5 = some b25 ∧ K b25 = 20 ∧ vp_in x1 (N b25) ∧ ((¬ (I6 b25 (Int32.toNatClampNeg x1)) = 200 → ∃ φ29 : Int32 → TI → Prop, MtI l G yX6_add cX6_add 3 (some .int) d [.ref a0, .int x1, .int x2] K N I6 R L sz φ29 ∧ ∀ (r31 : Int32) (I32 : TI), φ29 r31 I32 → φ r31 I32) ∧ ((I6 b25 (Int32.toNatClampNeg x1)) = 200 → φ (-1) I6))) ∧ (¬ x2 = (-1) → ∃ φ38 : Int32 → TI → Prop, MtI l G yX6_isWord cX6_isWord 2 (some .boolean) d [.int x2] K N I6 R L sz φ38 ∧ ∀ (r40 : Int32) (I41 : TI), φ38 r40 I41 → ((¬ r40 = 0 → ∃ b47, R a0 5 = some b47 ∧ K b47 = 20 ∧ vp_in x1 (N b47) ∧ ((¬ (I41 b47 (Int32.toNatClampNeg x1)) = 200 → ∃ φ51 : Int32 → TI → Prop, MtI l G yX6_add cX6_add 3 (some .int) d [.ref a0, .int x1, .int x2] K N I41 R L sz φ51 ∧ ∀ (r53 : Int32) (I54 : TI), φ51 r53 I54 → φ r53 I54) ∧ ((I41 b47 (Int32.toNatClampNeg x1)) = 200 → φ (-1) I41))) ∧ (r40 = 0 → φ (-4) I41))))))) ∧ (r5 = 0 → φ (-2) I6))) :
    MtI l G yX6_word cX6_word 3 (some .int) (d + 1) [.ref a0, .int x1, .int x2] K N I R L sz φ :=
  MetM.of (own := RX6) (by decide) rfl (catR (catI (catI cat0))) (Nat.le_of_ble_eq_true rfl) (fun p e s m args below meth c C hr hnm => vX6_word_0 C hr h)
set_option maxRecDepth 100000 in
set_option maxHeartbeats 4000000 in
theorem vX6_statement_0 {p : Program} {l : Launch} {e : Env} {s : State} {m : MethodId} {args : Array Value} {below : List Frame} {meth : Method} {c : Code} {G : Gx} {d : Nat} {K N : TK} {I : TI} {R : TR} {L : TL} {sz : Nat} {φ : Int32 → TI → Prop} (C : Cx p s m args meth c (AM K sz) G RX6 cX6_statement 5) (hr : meth.sig.returnType = (some .int)) {a0 : Nat} {x1 : Int32} {x2 : Int32} {x3 : Int32} {x4 : Int32}
    (h : K a0 = 17 ∧ ∃ b2, R a0 5 = some b2 ∧ K b2 = 20 ∧ vp_in x1 (N b2) ∧ (((I b2 (Int32.toNatClampNeg x1)) = 200 → φ (-1) I) ∧ (¬ (I b2 (Int32.toNatClampNeg x1)) = 200 → ((¬ (I a0 2) = 60 → ∀ I6 : TI, I6 = u2 I a0 2 ((I a0 2) + 1) → ∃ b7, R a0 10 = some b7 ∧ K b7 = 21 ∧ vp_in (I6 a0 2) (N b7) ∧ (x2 = 0 ∨ x2 = 1) ∧ ∀ I12 : TI, I12 = u2 I6 b7 (Int32.toNatClampNeg (I6 a0 2)) x2 → ∃ b13, R a0 7 = some b13 ∧ K b13 = 20 ∧ vp_in (I12 a0 2) (N b13) ∧ ∀ I17 : TI, I17 = u2 I12 b13 (Int32.toNatClampNeg (I12 a0 2)) x3 → ∃ b18, R a0 11 = some b18 ∧ K b18 = 21 ∧ vp_in (I17 a0 2) (N b18) ∧ (x4 = 0 ∨ x4 = 1) ∧ ∀ I23 : TI, I23 = u2 I17 b18 (Int32.toNatClampNeg (I17 a0 2)) x4 → ((x2 = 0 → ∃ φ24 : Int32 → TI → Prop, MtI l G yX6_add cX6_add 3 (some .int) d [.ref a0, .int x1, .int ((-2000) - (I23 a0 2))] K N I23 R L sz φ24 ∧ ∀ (r26 : Int32) (I27 : TI), φ24 r26 I27 → φ (I27 a0 2) I27) ∧ (¬ x2 = 0 → ∃ φ33 : Int32 → TI → Prop, MtI l G yX6_add cX6_add 3 (some .int) d [.ref a0, .int x1, .int ((-1000) - (I23 a0 2))] K N I23 R L sz φ33 ∧ ∀ (r35 : Int32) (I36 : TI), φ33 r35 I36 → φ (I36 a0 2) I36))) ∧ ((I a0 2) = 60 → φ (-1) I))))) :
    WI p l e s m args below meth c G (d + 1) φ K N R L sz 5 0 [(0, .ref a0), (1, .int x1), (2, .int x2), (3, .int x3), (4, .int x4)] I := by
  refine wm_aload_n C rfl dX6_statement_0 ?_
  obtain ⟨hk1, h⟩ := h
  obtain ⟨b2, hr3, h⟩ := h
  refine wm_getR C fqX6_13 hk1 hr3 dX6_statement_1 ?_
  refine wm_iload_n C rfl dX6_statement_4 ?_
  obtain ⟨hk4, h⟩ := h
  obtain ⟨hi5, h⟩ := h
  refine wm_iald C hk4 hi5 dX6_statement_5 ?_
  refine wm_sipush C 200 dX6_statement_6 ?_ (by decide)
  refine wm_icmp_eq C 21 dX6_statement_9 (by decide) (fun q => ?_) (fun q => ?_)
  · replace h := h.1 q
    refine wm_iconst C (-1) dX6_statement_21 ?_ (by decide)
    exact wm_iret C hr rfl (Nat.le_of_ble_eq_true rfl) (Nat.le_of_ble_eq_true rfl) ⟨rfl, rfl, rfl, rfl, rfl, _, rfl, h⟩ dX6_statement_22
  · replace h := h.2 q
    refine wm_aload_n C rfl dX6_statement_12 ?_
    refine wm_getI C fqX6_102 hk1 dX6_statement_13 ?_
    refine wm_bipush C 60 dX6_statement_16 ?_ (by decide)
    refine wm_icmp_ne C 23 dX6_statement_18 (by decide) (fun q => ?_) (fun q => ?_)
    · replace h := h.1 q
      refine wm_aload_n C rfl dX6_statement_23 ?_
      refine wm_dup C rfl dX6_statement_24 ?_
      refine wm_getI C fqX6_102 hk1 dX6_statement_25 ?_
      refine wm_iconst C 1 dX6_statement_28 ?_ (by decide)
      refine wm_iadd C dX6_statement_29 ?_
      refine wm_putI C fqX6_102 hk1 dX6_statement_30 ?_
      refine nmI (fun I6 hI6 => ?_)
      replace h := h I6 hI6
      refine wm_aload_n C rfl dX6_statement_33 ?_
      obtain ⟨b7, hr8, h⟩ := h
      refine wm_getR C fqX6_28 hk1 hr8 dX6_statement_34 ?_
      refine wm_aload_n C rfl dX6_statement_37 ?_
      refine wm_getI C fqX6_102 hk1 dX6_statement_38 ?_
      refine wm_iload_n C rfl dX6_statement_41 ?_
      obtain ⟨hk9, h⟩ := h
      obtain ⟨hi10, h⟩ := h
      obtain ⟨hz11, h⟩ := h
      refine wm_zast C hk9 hi10 (nrz hz11) dX6_statement_42 ?_
      refine nmI (fun I12 hI12 => ?_)
      replace h := h I12 hI12
      refine wm_aload_n C rfl dX6_statement_43 ?_
      obtain ⟨b13, hr14, h⟩ := h
      refine wm_getR C fqX6_19 hk1 hr14 dX6_statement_44 ?_
      refine wm_aload_n C rfl dX6_statement_47 ?_
      refine wm_getI C fqX6_102 hk1 dX6_statement_48 ?_
      refine wm_iload_n C rfl dX6_statement_51 ?_
      obtain ⟨hk15, h⟩ := h
      obtain ⟨hi16, h⟩ := h
      refine wm_iast C hk15 hi16 dX6_statement_52 ?_
      refine nmI (fun I17 hI17 => ?_)
      replace h := h I17 hI17
      refine wm_aload_n C rfl dX6_statement_53 ?_
      obtain ⟨b18, hr19, h⟩ := h
      refine wm_getR C fqX6_32 hk1 hr19 dX6_statement_54 ?_
      refine wm_aload_n C rfl dX6_statement_57 ?_
      refine wm_getI C fqX6_102 hk1 dX6_statement_58 ?_
      refine wm_iload C rfl dX6_statement_61 ?_
      obtain ⟨hk20, h⟩ := h
      obtain ⟨hi21, h⟩ := h
      obtain ⟨hz22, h⟩ := h
      refine wm_zast C hk20 hi21 (nrz hz22) dX6_statement_63 ?_
      refine nmI (fun I23 hI23 => ?_)
      replace h := h I23 hI23
      refine wm_aload_n C rfl dX6_statement_64 ?_
      refine wm_iload_n C rfl dX6_statement_65 ?_
      refine wm_iload_n C rfl dX6_statement_66 ?_
      refine wm_if_eq C 76 dX6_statement_67 (by decide) (fun q => ?_) (fun q => ?_)
      · replace h := h.1 q
        refine wm_sipush C (-2000) dX6_statement_76 ?_ (by decide)
        refine wm_aload_n C rfl dX6_statement_79 ?_
        refine wm_getI C fqX6_102 hk1 dX6_statement_80 ?_
        refine wm_isub C dX6_statement_83 ?_
        obtain ⟨φ24, hM25, h⟩ := h
        refine wm_cVI2 C vqX6_98 hM25 hk1 ⟨Nat.le_refl _, Nat.le_refl _⟩ (Nat.le_of_ble_eq_true rfl) ⟨Nat.le_of_ble_eq_true rfl, Nat.le_of_ble_eq_true rfl⟩ dX6_statement_84 (fun r26 I27 hφ32 => ?_)
        replace h := h r26 I27 hφ32
        refine wm_pop C rfl dX6_statement_87 ?_
        refine wm_aload_n C rfl dX6_statement_88 ?_
        refine wm_getI C fqX6_102 hk1 dX6_statement_89 ?_
        exact wm_iret C hr rfl (Nat.le_of_ble_eq_true rfl) (Nat.le_of_ble_eq_true rfl) ⟨rfl, rfl, rfl, rfl, rfl, _, rfl, h⟩ dX6_statement_92
      · replace h := h.2 q
        refine wm_sipush C (-1000) dX6_statement_70 ?_ (by decide)
        refine wm_goto C 79 dX6_statement_73 ?_ (by decide)
        refine wm_aload_n C rfl dX6_statement_79 ?_
        refine wm_getI C fqX6_102 hk1 dX6_statement_80 ?_
        refine wm_isub C dX6_statement_83 ?_
        obtain ⟨φ33, hM34, h⟩ := h
        refine wm_cVI2 C vqX6_98 hM34 hk1 ⟨Nat.le_refl _, Nat.le_refl _⟩ (Nat.le_of_ble_eq_true rfl) ⟨Nat.le_of_ble_eq_true rfl, Nat.le_of_ble_eq_true rfl⟩ dX6_statement_84 (fun r35 I36 hφ41 => ?_)
        replace h := h r35 I36 hφ41
        refine wm_pop C rfl dX6_statement_87 ?_
        refine wm_aload_n C rfl dX6_statement_88 ?_
        refine wm_getI C fqX6_102 hk1 dX6_statement_89 ?_
        exact wm_iret C hr rfl (Nat.le_of_ble_eq_true rfl) (Nat.le_of_ble_eq_true rfl) ⟨rfl, rfl, rfl, rfl, rfl, _, rfl, h⟩ dX6_statement_92
    · replace h := h.2 q
      refine wm_iconst C (-1) dX6_statement_21 ?_ (by decide)
      exact wm_iret C hr rfl (Nat.le_of_ble_eq_true rfl) (Nat.le_of_ble_eq_true rfl) ⟨rfl, rfl, rfl, rfl, rfl, _, rfl, h⟩ dX6_statement_22
set_option maxRecDepth 100000 in
set_option maxHeartbeats 4000000 in
theorem sX6_statement {l : Launch} {G : Gx} {d : Nat} {K N : TK} {I : TI} {R : TR} {L : TL} {sz : Nat} {φ : Int32 → TI → Prop} {a0 : Nat} {x1 : Int32} {x2 : Int32} {x3 : Int32} {x4 : Int32}
    (h : K a0 = 17 ∧ ∃ b2, R a0 5 = some b2 ∧ K b2 = 20 ∧ vp_in x1 (N b2) ∧ (((I b2 (Int32.toNatClampNeg x1)) = 200 → φ (-1) I) ∧ (¬ (I b2 (Int32.toNatClampNeg x1)) = 200 → ((¬ (I a0 2) = 60 → ∀ I6 : TI, I6 = u2 I a0 2 ((I a0 2) + 1) → ∃ b7, R a0 10 = some b7 ∧ K b7 = 21 ∧ vp_in (I6 a0 2) (N b7) ∧ (x2 = 0 ∨ x2 = 1) ∧ ∀ I12 : TI, I12 = u2 I6 b7 (Int32.toNatClampNeg (I6 a0 2)) x2 → ∃ b13, R a0 7 = some b13 ∧ K b13 = 20 ∧ vp_in (I12 a0 2) (N b13) ∧ ∀ I17 : TI, I17 = u2 I12 b13 (Int32.toNatClampNeg (I12 a0 2)) x3 → ∃ b18, R a0 11 = some b18 ∧ K b18 = 21 ∧ vp_in (I17 a0 2) (N b18) ∧ (x4 = 0 ∨ x4 = 1) ∧ ∀ I23 : TI, I23 = u2 I17 b18 (Int32.toNatClampNeg (I17 a0 2)) x4 → ((x2 = 0 → ∃ φ24 : Int32 → TI → Prop, MtI l G yX6_add cX6_add 3 (some .int) d [.ref a0, .int x1, .int ((-2000) - (I23 a0 2))] K N I23 R L sz φ24 ∧ ∀ (r26 : Int32) (I27 : TI), φ24 r26 I27 → φ (I27 a0 2) I27) ∧ (¬ x2 = 0 → ∃ φ33 : Int32 → TI → Prop, MtI l G yX6_add cX6_add 3 (some .int) d [.ref a0, .int x1, .int ((-1000) - (I23 a0 2))] K N I23 R L sz φ33 ∧ ∀ (r35 : Int32) (I36 : TI), φ33 r35 I36 → φ (I36 a0 2) I36))) ∧ ((I a0 2) = 60 → φ (-1) I))))) :
    MtI l G yX6_statement cX6_statement 5 (some .int) (d + 1) [.ref a0, .int x1, .int x2, .int x3, .int x4] K N I R L sz φ :=
  MetM.of (own := RX6) (by decide) rfl (catR (catI (catI (catI (catI cat0))))) (Nat.le_of_ble_eq_true rfl) (fun p e s m args below meth c C hr hnm => vX6_statement_0 C hr h)
set_option maxRecDepth 100000 in
set_option maxHeartbeats 4000000 in
theorem vX6_copy_0 {p : Program} {l : Launch} {e : Env} {s : State} {m : MethodId} {args : Array Value} {below : List Frame} {meth : Method} {c : Code} {G : Gx} {d : Nat} {K N : TK} {I : TI} {R : TR} {L : TL} {sz : Nat} {φ : Int32 → TI → Prop} (C : Cx p s m args meth c (AM K sz) G RX6 cX6_copy 4) (hr : meth.sig.returnType = (some .int)) {a0 : Nat} {x1 : Int32} {x2 : Int32} {x3 : Int32}
    (h : K a0 = 17 ∧ ∀ I2 : TI, I2 = u2 I a0 0 0 → ∃ φ3 : Int32 → TI → Prop, MtI l G yX6_isText cX6_isText 2 (some .boolean) d [.ref a0, .int x1] K N I2 R L sz φ3 ∧ ∀ (r5 : Int32) (I6 : TI), φ3 r5 I6 → ((¬ r5 = 0 → ((x2 < 0 → φ (-4) I6) ∧ (¬ x2 < 0 → ((x2 ≤ 99 → ∃ φ12 : Int32 → TI → Prop, MtI l G yX6_statement cX6_statement 5 (some .int) d [.ref a0, .int x1, .int 1, .int x2, .int x3] K N I6 R L sz φ12 ∧ ∀ (r14 : Int32) (I15 : TI), φ12 r14 I15 → φ r14 I15) ∧ (¬ x2 ≤ 99 → φ (-4) I6))))) ∧ (r5 = 0 → φ (-2) I6))) :
    WI p l e s m args below meth c G (d + 1) φ K N R L sz 4 0 [(0, .ref a0), (1, .int x1), (2, .int x2), (3, .int x3)] I := by
  refine wm_aload_n C rfl dX6_copy_0 ?_
  refine wm_iconst C 0 dX6_copy_1 ?_ (by decide)
  obtain ⟨hk1, h⟩ := h
  refine wm_putI C fqX6_83 hk1 dX6_copy_2 ?_
  refine nmI (fun I2 hI2 => ?_)
  replace h := h I2 hI2
  refine wm_aload_n C rfl dX6_copy_5 ?_
  refine wm_iload_n C rfl dX6_copy_6 ?_
  obtain ⟨φ3, hM4, h⟩ := h
  refine wm_cVI1 C vqX6_91 hM4 hk1 ⟨Nat.le_refl _, Nat.le_refl _⟩ (Nat.le_of_ble_eq_true rfl) ⟨Nat.le_of_ble_eq_true rfl, Nat.le_of_ble_eq_true rfl⟩ dX6_copy_7 (fun r5 I6 hφ11 => ?_)
  replace h := h r5 I6 hφ11
  refine wm_if_ne C 16 dX6_copy_10 (by decide) (fun q => ?_) (fun q => ?_)
  · replace h := h.1 q
    refine wm_iload_n C rfl dX6_copy_16 ?_
    refine wm_if_lt C 26 dX6_copy_17 (by decide) (fun q => ?_) (fun q => ?_)
    · replace h := h.1 q
      refine wm_bipush C (-4) dX6_copy_26 ?_ (by decide)
      refine wm_goto C 39 dX6_copy_28 ?_ (by decide)
      exact wm_iret C hr rfl (Nat.le_of_ble_eq_true rfl) (Nat.le_of_ble_eq_true rfl) ⟨rfl, rfl, rfl, rfl, rfl, _, rfl, h⟩ dX6_copy_39
    · replace h := h.2 q
      refine wm_iload_n C rfl dX6_copy_20 ?_
      refine wm_bipush C 99 dX6_copy_21 ?_ (by decide)
      refine wm_icmp_le C 31 dX6_copy_23 (by decide) (fun q => ?_) (fun q => ?_)
      · replace h := h.1 q
        refine wm_aload_n C rfl dX6_copy_31 ?_
        refine wm_iload_n C rfl dX6_copy_32 ?_
        refine wm_iconst C 1 dX6_copy_33 ?_ (by decide)
        refine wm_iload_n C rfl dX6_copy_34 ?_
        refine wm_iload_n C rfl dX6_copy_35 ?_
        obtain ⟨φ12, hM13, h⟩ := h
        refine wm_cVI4 C vqX6_105 hM13 hk1 ⟨Nat.le_refl _, Nat.le_refl _⟩ (Nat.le_of_ble_eq_true rfl) ⟨Nat.le_of_ble_eq_true rfl, Nat.le_of_ble_eq_true rfl⟩ dX6_copy_36 (fun r14 I15 hφ20 => ?_)
        replace h := h r14 I15 hφ20
        exact wm_iret C hr rfl (Nat.le_of_ble_eq_true rfl) (Nat.le_of_ble_eq_true rfl) ⟨rfl, rfl, rfl, rfl, rfl, _, rfl, h⟩ dX6_copy_39
      · replace h := h.2 q
        refine wm_bipush C (-4) dX6_copy_26 ?_ (by decide)
        refine wm_goto C 39 dX6_copy_28 ?_ (by decide)
        exact wm_iret C hr rfl (Nat.le_of_ble_eq_true rfl) (Nat.le_of_ble_eq_true rfl) ⟨rfl, rfl, rfl, rfl, rfl, _, rfl, h⟩ dX6_copy_39
  · replace h := h.2 q
    refine wm_bipush C (-2) dX6_copy_13 ?_ (by decide)
    exact wm_iret C hr rfl (Nat.le_of_ble_eq_true rfl) (Nat.le_of_ble_eq_true rfl) ⟨rfl, rfl, rfl, rfl, rfl, _, rfl, h⟩ dX6_copy_15
set_option maxRecDepth 100000 in
set_option maxHeartbeats 4000000 in
theorem sX6_copy {l : Launch} {G : Gx} {d : Nat} {K N : TK} {I : TI} {R : TR} {L : TL} {sz : Nat} {φ : Int32 → TI → Prop} {a0 : Nat} {x1 : Int32} {x2 : Int32} {x3 : Int32}
    (h : K a0 = 17 ∧ ∀ I2 : TI, I2 = u2 I a0 0 0 → ∃ φ3 : Int32 → TI → Prop, MtI l G yX6_isText cX6_isText 2 (some .boolean) d [.ref a0, .int x1] K N I2 R L sz φ3 ∧ ∀ (r5 : Int32) (I6 : TI), φ3 r5 I6 → ((¬ r5 = 0 → ((x2 < 0 → φ (-4) I6) ∧ (¬ x2 < 0 → ((x2 ≤ 99 → ∃ φ12 : Int32 → TI → Prop, MtI l G yX6_statement cX6_statement 5 (some .int) d [.ref a0, .int x1, .int 1, .int x2, .int x3] K N I6 R L sz φ12 ∧ ∀ (r14 : Int32) (I15 : TI), φ12 r14 I15 → φ r14 I15) ∧ (¬ x2 ≤ 99 → φ (-4) I6))))) ∧ (r5 = 0 → φ (-2) I6))) :
    MtI l G yX6_copy cX6_copy 4 (some .int) (d + 1) [.ref a0, .int x1, .int x2, .int x3] K N I R L sz φ :=
  MetM.of (own := RX6) (by decide) rfl (catR (catI (catI (catI cat0)))) (Nat.le_of_ble_eq_true rfl) (fun p e s m args below meth c C hr hnm => vX6_copy_0 C hr h)
set_option maxRecDepth 100000 in
set_option maxHeartbeats 4000000 in
theorem vX6_replace_0 {p : Program} {l : Launch} {e : Env} {s : State} {m : MethodId} {args : Array Value} {below : List Frame} {meth : Method} {c : Code} {G : Gx} {d : Nat} {K N : TK} {I : TI} {R : TR} {L : TL} {sz : Nat} {φ : Int32 → TI → Prop} (C : Cx p s m args meth c (AM K sz) G RX6 cX6_replace 2) (hr : meth.sig.returnType = (some .int)) {a0 : Nat} {x1 : Int32}
    (h : K a0 = 17 ∧ ∀ I2 : TI, I2 = u2 I a0 0 0 → ∃ φ3 : Int32 → TI → Prop, MtI l G yX6_isText cX6_isText 2 (some .boolean) d [.ref a0, .int x1] K N I2 R L sz φ3 ∧ ∀ (r5 : Int32) (I6 : TI), φ3 r5 I6 → ((r5 = 0 → φ (-2) I6) ∧ (¬ r5 = 0 → ∃ φ12 : Int32 → TI → Prop, MtI l G yX6_statement cX6_statement 5 (some .int) d [.ref a0, .int x1, .int 0, .int 0, .int 0] K N I6 R L sz φ12 ∧ ∀ (r14 : Int32) (I15 : TI), φ12 r14 I15 → φ r14 I15))) :
    WI p l e s m args below meth c G (d + 1) φ K N R L sz 2 0 [(0, .ref a0), (1, .int x1)] I := by
  refine wm_aload_n C rfl dX6_replace_0 ?_
  refine wm_iconst C 0 dX6_replace_1 ?_ (by decide)
  obtain ⟨hk1, h⟩ := h
  refine wm_putI C fqX6_83 hk1 dX6_replace_2 ?_
  refine nmI (fun I2 hI2 => ?_)
  replace h := h I2 hI2
  refine wm_aload_n C rfl dX6_replace_5 ?_
  refine wm_iload_n C rfl dX6_replace_6 ?_
  obtain ⟨φ3, hM4, h⟩ := h
  refine wm_cVI1 C vqX6_91 hM4 hk1 ⟨Nat.le_refl _, Nat.le_refl _⟩ (Nat.le_of_ble_eq_true rfl) ⟨Nat.le_of_ble_eq_true rfl, Nat.le_of_ble_eq_true rfl⟩ dX6_replace_7 (fun r5 I6 hφ11 => ?_)
  replace h := h r5 I6 hφ11
  refine wm_if_eq C 24 dX6_replace_10 (by decide) (fun q => ?_) (fun q => ?_)
  · replace h := h.1 q
    refine wm_bipush C (-2) dX6_replace_24 ?_ (by decide)
    exact wm_iret C hr rfl (Nat.le_of_ble_eq_true rfl) (Nat.le_of_ble_eq_true rfl) ⟨rfl, rfl, rfl, rfl, rfl, _, rfl, h⟩ dX6_replace_26
  · replace h := h.2 q
    refine wm_aload_n C rfl dX6_replace_13 ?_
    refine wm_iload_n C rfl dX6_replace_14 ?_
    refine wm_iconst C 0 dX6_replace_15 ?_ (by decide)
    refine wm_iconst C 0 dX6_replace_16 ?_ (by decide)
    refine wm_iconst C 0 dX6_replace_17 ?_ (by decide)
    obtain ⟨φ12, hM13, h⟩ := h
    refine wm_cVI4 C vqX6_105 hM13 hk1 ⟨Nat.le_refl _, Nat.le_refl _⟩ (Nat.le_of_ble_eq_true rfl) ⟨Nat.le_of_ble_eq_true rfl, Nat.le_of_ble_eq_true rfl⟩ dX6_replace_18 (fun r14 I15 hφ20 => ?_)
    replace h := h r14 I15 hφ20
    refine wm_goto C 26 dX6_replace_21 ?_ (by decide)
    exact wm_iret C hr rfl (Nat.le_of_ble_eq_true rfl) (Nat.le_of_ble_eq_true rfl) ⟨rfl, rfl, rfl, rfl, rfl, _, rfl, h⟩ dX6_replace_26
set_option maxRecDepth 100000 in
set_option maxHeartbeats 4000000 in
theorem sX6_replace {l : Launch} {G : Gx} {d : Nat} {K N : TK} {I : TI} {R : TR} {L : TL} {sz : Nat} {φ : Int32 → TI → Prop} {a0 : Nat} {x1 : Int32}
    (h : K a0 = 17 ∧ ∀ I2 : TI, I2 = u2 I a0 0 0 → ∃ φ3 : Int32 → TI → Prop, MtI l G yX6_isText cX6_isText 2 (some .boolean) d [.ref a0, .int x1] K N I2 R L sz φ3 ∧ ∀ (r5 : Int32) (I6 : TI), φ3 r5 I6 → ((r5 = 0 → φ (-2) I6) ∧ (¬ r5 = 0 → ∃ φ12 : Int32 → TI → Prop, MtI l G yX6_statement cX6_statement 5 (some .int) d [.ref a0, .int x1, .int 0, .int 0, .int 0] K N I6 R L sz φ12 ∧ ∀ (r14 : Int32) (I15 : TI), φ12 r14 I15 → φ r14 I15))) :
    MtI l G yX6_replace cX6_replace 2 (some .int) (d + 1) [.ref a0, .int x1] K N I R L sz φ :=
  MetM.of (own := RX6) (by decide) rfl (catR (catI cat0)) (Nat.le_of_ble_eq_true rfl) (fun p e s m args below meth c C hr hnm => vX6_replace_0 C hr h)
set_option maxRecDepth 100000 in
set_option maxHeartbeats 4000000 in
theorem vX6_off_0 {p : Program} {l : Launch} {e : Env} {s : State} {m : MethodId} {args : Array Value} {below : List Frame} {meth : Method} {c : Code} {G : Gx} {d : Nat} {K N : TK} {I : TI} {R : TR} {L : TL} {sz : Nat} {φ : Int32 → TI → Prop} (C : Cx p s m args meth c (AM K sz) G RX6 cX6_off 2) (hr : meth.sig.returnType = (some .int)) {a0 : Nat} {x1 : Int32}
    (h : K a0 = 17 ∧ ∀ I2 : TI, I2 = u2 I a0 0 0 → ∃ φ3 : Int32 → TI → Prop, MtI l G yX6_isText cX6_isText 2 (some .boolean) d [.ref a0, .int x1] K N I2 R L sz φ3 ∧ ∀ (r5 : Int32) (I6 : TI), φ3 r5 I6 → ((¬ r5 = 0 → ∃ b12, R a0 5 = some b12 ∧ K b12 = 20 ∧ vp_in x1 (N b12) ∧ ((¬ (I6 b12 (Int32.toNatClampNeg x1)) = 200 → ∃ φ16 : Int32 → TI → Prop, MtI l G yX6_add cX6_add 3 (some .int) d [.ref a0, .int x1, .int (-3000)] K N I6 R L sz φ16 ∧ ∀ (r18 : Int32) (I19 : TI), φ16 r18 I19 → φ r18 I19) ∧ ((I6 b12 (Int32.toNatClampNeg x1)) = 200 → φ (-1) I6))) ∧ (r5 = 0 → φ (-2) I6))) :
    WI p l e s m args below meth c G (d + 1) φ K N R L sz 2 0 [(0, .ref a0), (1, .int x1)] I := by
  refine wm_aload_n C rfl dX6_off_0 ?_
  refine wm_iconst C 0 dX6_off_1 ?_ (by decide)
  obtain ⟨hk1, h⟩ := h
  refine wm_putI C fqX6_83 hk1 dX6_off_2 ?_
  refine nmI (fun I2 hI2 => ?_)
  replace h := h I2 hI2
  refine wm_aload_n C rfl dX6_off_5 ?_
  refine wm_iload_n C rfl dX6_off_6 ?_
  obtain ⟨φ3, hM4, h⟩ := h
  refine wm_cVI1 C vqX6_91 hM4 hk1 ⟨Nat.le_refl _, Nat.le_refl _⟩ (Nat.le_of_ble_eq_true rfl) ⟨Nat.le_of_ble_eq_true rfl, Nat.le_of_ble_eq_true rfl⟩ dX6_off_7 (fun r5 I6 hφ11 => ?_)
  replace h := h r5 I6 hφ11
  refine wm_if_ne C 16 dX6_off_10 (by decide) (fun q => ?_) (fun q => ?_)
  · replace h := h.1 q
    refine wm_aload_n C rfl dX6_off_16 ?_
    obtain ⟨b12, hr13, h⟩ := h
    refine wm_getR C fqX6_13 hk1 hr13 dX6_off_17 ?_
    refine wm_iload_n C rfl dX6_off_20 ?_
    obtain ⟨hk14, h⟩ := h
    obtain ⟨hi15, h⟩ := h
    refine wm_iald C hk14 hi15 dX6_off_21 ?_
    refine wm_sipush C 200 dX6_off_22 ?_ (by decide)
    refine wm_icmp_ne C 32 dX6_off_25 (by decide) (fun q => ?_) (fun q => ?_)
    · replace h := h.1 q
      refine wm_aload_n C rfl dX6_off_32 ?_
      refine wm_iload_n C rfl dX6_off_33 ?_
      refine wm_sipush C (-3000) dX6_off_34 ?_ (by decide)
      obtain ⟨φ16, hM17, h⟩ := h
      refine wm_cVI2 C vqX6_98 hM17 hk1 ⟨Nat.le_refl _, Nat.le_refl _⟩ (Nat.le_of_ble_eq_true rfl) ⟨Nat.le_of_ble_eq_true rfl, Nat.le_of_ble_eq_true rfl⟩ dX6_off_37 (fun r18 I19 hφ24 => ?_)
      replace h := h r18 I19 hφ24
      exact wm_iret C hr rfl (Nat.le_of_ble_eq_true rfl) (Nat.le_of_ble_eq_true rfl) ⟨rfl, rfl, rfl, rfl, rfl, _, rfl, h⟩ dX6_off_40
    · replace h := h.2 q
      refine wm_iconst C (-1) dX6_off_28 ?_ (by decide)
      refine wm_goto C 40 dX6_off_29 ?_ (by decide)
      exact wm_iret C hr rfl (Nat.le_of_ble_eq_true rfl) (Nat.le_of_ble_eq_true rfl) ⟨rfl, rfl, rfl, rfl, rfl, _, rfl, h⟩ dX6_off_40
  · replace h := h.2 q
    refine wm_bipush C (-2) dX6_off_13 ?_ (by decide)
    exact wm_iret C hr rfl (Nat.le_of_ble_eq_true rfl) (Nat.le_of_ble_eq_true rfl) ⟨rfl, rfl, rfl, rfl, rfl, _, rfl, h⟩ dX6_off_15
set_option maxRecDepth 100000 in
set_option maxHeartbeats 4000000 in
theorem sX6_off {l : Launch} {G : Gx} {d : Nat} {K N : TK} {I : TI} {R : TR} {L : TL} {sz : Nat} {φ : Int32 → TI → Prop} {a0 : Nat} {x1 : Int32}
    (h : K a0 = 17 ∧ ∀ I2 : TI, I2 = u2 I a0 0 0 → ∃ φ3 : Int32 → TI → Prop, MtI l G yX6_isText cX6_isText 2 (some .boolean) d [.ref a0, .int x1] K N I2 R L sz φ3 ∧ ∀ (r5 : Int32) (I6 : TI), φ3 r5 I6 → ((¬ r5 = 0 → ∃ b12, R a0 5 = some b12 ∧ K b12 = 20 ∧ vp_in x1 (N b12) ∧ ((¬ (I6 b12 (Int32.toNatClampNeg x1)) = 200 → ∃ φ16 : Int32 → TI → Prop, MtI l G yX6_add cX6_add 3 (some .int) d [.ref a0, .int x1, .int (-3000)] K N I6 R L sz φ16 ∧ ∀ (r18 : Int32) (I19 : TI), φ16 r18 I19 → φ r18 I19) ∧ ((I6 b12 (Int32.toNatClampNeg x1)) = 200 → φ (-1) I6))) ∧ (r5 = 0 → φ (-2) I6))) :
    MtI l G yX6_off cX6_off 2 (some .int) (d + 1) [.ref a0, .int x1] K N I R L sz φ :=
  MetM.of (own := RX6) (by decide) rfl (catR (catI cat0)) (Nat.le_of_ble_eq_true rfl) (fun p e s m args below meth c C hr hnm => vX6_off_0 C hr h)
set_option maxRecDepth 100000 in
set_option maxHeartbeats 4000000 in
theorem vX6_phrase_0 {p : Program} {l : Launch} {e : Env} {s : State} {m : MethodId} {args : Array Value} {below : List Frame} {meth : Method} {c : Code} {G : Gx} {d : Nat} {K N : TK} {I : TI} {R : TR} {L : TL} {sz : Nat} {φ : Int32 → TI → Prop} (C : Cx p s m args meth c (AM K sz) G RX6 cX6_phrase 4) (hr : meth.sig.returnType = (some .int)) {a0 : Nat} {x1 : Int32} {x2 : Int32} {x3 : Int32}
    (h : K a0 = 17 ∧ ∀ I2 : TI, I2 = u2 I a0 0 0 → ((x1 < 1 → φ (-2) I2) ∧ (¬ x1 < 1 → ((x1 ≤ (I2 a0 2) → ((x2 < 0 → φ (-4) I2) ∧ (¬ x2 < 0 → ((2 < x2 → φ (-4) I2) ∧ (¬ 2 < x2 → ∃ φ3 : Int32 → TI → Prop, MtI l G yX6_isWord cX6_isWord 2 (some .boolean) d [.int x3] K N I2 R L sz φ3 ∧ ∀ (r5 : Int32) (I6 : TI), φ3 r5 I6 → ((¬ r5 = 0 → (((I6 a0 3) = 100 → φ (-1) I6) ∧ (¬ (I6 a0 3) = 100 → ∃ b12, R a0 8 = some b12 ∧ K b12 = 20 ∧ vp_in x1 (N b12) ∧ ((¬ (I6 b12 (Int32.toNatClampNeg x1)) = 8 → ∀ I16 : TI, I16 = u2 I6 a0 3 ((I6 a0 3) + 1) → ∃ b17, R a0 12 = some b17 ∧ K b17 = 20 ∧ vp_in (I16 a0 3) (N b17) ∧ ∀ I21 : TI, I21 = u2 I16 b17 (Int32.toNatClampNeg (I16 a0 3)) x2 → ∃ b22, R a0 15 = some b22 ∧ K b22 = 20 ∧ vp_in ((10 * (I21 a0 3)) - 10) (N b22) ∧ ∀ I26 : TI, I26 = u2 I21 b22 (Int32.toNatClampNeg ((10 * (I21 a0 3)) - 10)) x3 → ∃ b27, R a0 13 = some b27 ∧ K b27 = 20 ∧ vp_in (I26 a0 3) (N b27) ∧ ∀ I31 : TI, I31 = u2 I26 b27 (Int32.toNatClampNeg (I26 a0 3)) 1 → ∃ b32, R a0 9 = some b32 ∧ K b32 = 20 ∧ vp_in (((8 * x1) - 8) + (I31 b12 (Int32.toNatClampNeg x1))) (N b32) ∧ ∀ I36 : TI, I36 = u2 I31 b32 (Int32.toNatClampNeg (((8 * x1) - 8) + (I31 b12 (Int32.toNatClampNeg x1)))) (I31 a0 3) → ∀ I37 : TI, I37 = u2 I36 b12 (Int32.toNatClampNeg x1) ((I36 b12 (Int32.toNatClampNeg x1)) + 1) → φ (I37 a0 3) I37) ∧ ((I6 b12 (Int32.toNatClampNeg x1)) = 8 → φ (-1) I6))))) ∧ (r5 = 0 → φ (-4) I6))))))) ∧ (¬ x1 ≤ (I2 a0 2) → φ (-2) I2))))) :
    WI p l e s m args below meth c G (d + 1) φ K N R L sz 4 0 [(0, .ref a0), (1, .int x1), (2, .int x2), (3, .int x3)] I := by
  refine wm_aload_n C rfl dX6_phrase_0 ?_
  refine wm_iconst C 0 dX6_phrase_1 ?_ (by decide)
  obtain ⟨hk1, h⟩ := h
  refine wm_putI C fqX6_83 hk1 dX6_phrase_2 ?_
  refine nmI (fun I2 hI2 => ?_)
  replace h := h I2 hI2
  refine wm_iload_n C rfl dX6_phrase_5 ?_
  refine wm_iconst C 1 dX6_phrase_6 ?_ (by decide)
  refine wm_icmp_lt C 18 dX6_phrase_7 (by decide) (fun q => ?_) (fun q => ?_)
  · replace h := h.1 q
    refine wm_bipush C (-2) dX6_phrase_18 ?_ (by decide)
    exact wm_iret C hr rfl (Nat.le_of_ble_eq_true rfl) (Nat.le_of_ble_eq_true rfl) ⟨rfl, rfl, rfl, rfl, rfl, _, rfl, h⟩ dX6_phrase_20
  · replace h := h.2 q
    refine wm_iload_n C rfl dX6_phrase_10 ?_
    refine wm_aload_n C rfl dX6_phrase_11 ?_
    refine wm_getI C fqX6_102 hk1 dX6_phrase_12 ?_
    refine wm_icmp_le C 21 dX6_phrase_15 (by decide) (fun q => ?_) (fun q => ?_)
    · replace h := h.1 q
      refine wm_iload_n C rfl dX6_phrase_21 ?_
      refine wm_if_lt C 37 dX6_phrase_22 (by decide) (fun q => ?_) (fun q => ?_)
      · replace h := h.1 q
        refine wm_bipush C (-4) dX6_phrase_37 ?_ (by decide)
        exact wm_iret C hr rfl (Nat.le_of_ble_eq_true rfl) (Nat.le_of_ble_eq_true rfl) ⟨rfl, rfl, rfl, rfl, rfl, _, rfl, h⟩ dX6_phrase_39
      · replace h := h.2 q
        refine wm_iload_n C rfl dX6_phrase_25 ?_
        refine wm_iconst C 2 dX6_phrase_26 ?_ (by decide)
        refine wm_icmp_gt C 37 dX6_phrase_27 (by decide) (fun q => ?_) (fun q => ?_)
        · replace h := h.1 q
          refine wm_bipush C (-4) dX6_phrase_37 ?_ (by decide)
          exact wm_iret C hr rfl (Nat.le_of_ble_eq_true rfl) (Nat.le_of_ble_eq_true rfl) ⟨rfl, rfl, rfl, rfl, rfl, _, rfl, h⟩ dX6_phrase_39
        · replace h := h.2 q
          refine wm_iload_n C rfl dX6_phrase_30 ?_
          obtain ⟨φ3, hM4, h⟩ := h
          refine wm_cSI1 C sqX6_95 hM4 ⟨Nat.le_refl _, Nat.le_refl _⟩ (Nat.le_of_ble_eq_true rfl) ⟨Nat.le_of_ble_eq_true rfl, Nat.le_of_ble_eq_true rfl⟩ dX6_phrase_31 (fun r5 I6 hφ11 => ?_)
          replace h := h r5 I6 hφ11
          refine wm_if_ne C 40 dX6_phrase_34 (by decide) (fun q => ?_) (fun q => ?_)
          · replace h := h.1 q
            refine wm_aload_n C rfl dX6_phrase_40 ?_
            refine wm_getI C fqX6_109 hk1 dX6_phrase_41 ?_
            refine wm_bipush C 100 dX6_phrase_44 ?_ (by decide)
            refine wm_icmp_eq C 60 dX6_phrase_46 (by decide) (fun q => ?_) (fun q => ?_)
            · replace h := h.1 q
              refine wm_iconst C (-1) dX6_phrase_60 ?_ (by decide)
              exact wm_iret C hr rfl (Nat.le_of_ble_eq_true rfl) (Nat.le_of_ble_eq_true rfl) ⟨rfl, rfl, rfl, rfl, rfl, _, rfl, h⟩ dX6_phrase_61
            · replace h := h.2 q
              refine wm_aload_n C rfl dX6_phrase_49 ?_
              obtain ⟨b12, hr13, h⟩ := h
              refine wm_getR C fqX6_22 hk1 hr13 dX6_phrase_50 ?_
              refine wm_iload_n C rfl dX6_phrase_53 ?_
              obtain ⟨hk14, h⟩ := h
              obtain ⟨hi15, h⟩ := h
              refine wm_iald C hk14 hi15 dX6_phrase_54 ?_
              refine wm_bipush C 8 dX6_phrase_55 ?_ (by decide)
              refine wm_icmp_ne C 62 dX6_phrase_57 (by decide) (fun q => ?_) (fun q => ?_)
              · replace h := h.1 q
                refine wm_aload_n C rfl dX6_phrase_62 ?_
                refine wm_dup C rfl dX6_phrase_63 ?_
                refine wm_getI C fqX6_109 hk1 dX6_phrase_64 ?_
                refine wm_iconst C 1 dX6_phrase_67 ?_ (by decide)
                refine wm_iadd C dX6_phrase_68 ?_
                refine wm_putI C fqX6_109 hk1 dX6_phrase_69 ?_
                refine nmI (fun I16 hI16 => ?_)
                replace h := h I16 hI16
                refine wm_aload_n C rfl dX6_phrase_72 ?_
                obtain ⟨b17, hr18, h⟩ := h
                refine wm_getR C fqX6_35 hk1 hr18 dX6_phrase_73 ?_
                refine wm_aload_n C rfl dX6_phrase_76 ?_
                refine wm_getI C fqX6_109 hk1 dX6_phrase_77 ?_
                refine wm_iload_n C rfl dX6_phrase_80 ?_
                obtain ⟨hk19, h⟩ := h
                obtain ⟨hi20, h⟩ := h
                refine wm_iast C hk19 hi20 dX6_phrase_81 ?_
                refine nmI (fun I21 hI21 => ?_)
                replace h := h I21 hI21
                refine wm_aload_n C rfl dX6_phrase_82 ?_
                obtain ⟨b22, hr23, h⟩ := h
                refine wm_getR C fqX6_44 hk1 hr23 dX6_phrase_83 ?_
                refine wm_bipush C 10 dX6_phrase_86 ?_ (by decide)
                refine wm_aload_n C rfl dX6_phrase_88 ?_
                refine wm_getI C fqX6_109 hk1 dX6_phrase_89 ?_
                refine wm_imul C dX6_phrase_92 ?_
                refine wm_bipush C 10 dX6_phrase_93 ?_ (by decide)
                refine wm_isub C dX6_phrase_95 ?_
                refine wm_iload_n C rfl dX6_phrase_96 ?_
                obtain ⟨hk24, h⟩ := h
                obtain ⟨hi25, h⟩ := h
                refine wm_iast C hk24 hi25 dX6_phrase_97 ?_
                refine nmI (fun I26 hI26 => ?_)
                replace h := h I26 hI26
                refine wm_aload_n C rfl dX6_phrase_98 ?_
                obtain ⟨b27, hr28, h⟩ := h
                refine wm_getR C fqX6_38 hk1 hr28 dX6_phrase_99 ?_
                refine wm_aload_n C rfl dX6_phrase_102 ?_
                refine wm_getI C fqX6_109 hk1 dX6_phrase_103 ?_
                refine wm_iconst C 1 dX6_phrase_106 ?_ (by decide)
                obtain ⟨hk29, h⟩ := h
                obtain ⟨hi30, h⟩ := h
                refine wm_iast C hk29 hi30 dX6_phrase_107 ?_
                refine nmI (fun I31 hI31 => ?_)
                replace h := h I31 hI31
                refine wm_aload_n C rfl dX6_phrase_108 ?_
                obtain ⟨b32, hr33, h⟩ := h
                refine wm_getR C fqX6_25 hk1 hr33 dX6_phrase_109 ?_
                refine wm_bipush C 8 dX6_phrase_112 ?_ (by decide)
                refine wm_iload_n C rfl dX6_phrase_114 ?_
                refine wm_imul C dX6_phrase_115 ?_
                refine wm_bipush C 8 dX6_phrase_116 ?_ (by decide)
                refine wm_isub C dX6_phrase_118 ?_
                refine wm_aload_n C rfl dX6_phrase_119 ?_
                refine wm_getR C fqX6_22 hk1 hr13 dX6_phrase_120 ?_
                refine wm_iload_n C rfl dX6_phrase_123 ?_
                refine wm_iald C hk14 hi15 dX6_phrase_124 ?_
                refine wm_iadd C dX6_phrase_125 ?_
                refine wm_aload_n C rfl dX6_phrase_126 ?_
                refine wm_getI C fqX6_109 hk1 dX6_phrase_127 ?_
                obtain ⟨hk34, h⟩ := h
                obtain ⟨hi35, h⟩ := h
                refine wm_iast C hk34 hi35 dX6_phrase_130 ?_
                refine nmI (fun I36 hI36 => ?_)
                replace h := h I36 hI36
                refine wm_aload_n C rfl dX6_phrase_131 ?_
                refine wm_getR C fqX6_22 hk1 hr13 dX6_phrase_132 ?_
                refine wm_iload_n C rfl dX6_phrase_135 ?_
                refine wm_dup2 C rfl rfl dX6_phrase_136 ?_
                refine wm_iald C hk14 hi15 dX6_phrase_137 ?_
                refine wm_iconst C 1 dX6_phrase_138 ?_ (by decide)
                refine wm_iadd C dX6_phrase_139 ?_
                refine wm_iast C hk14 hi15 dX6_phrase_140 ?_
                refine nmI (fun I37 hI37 => ?_)
                replace h := h I37 hI37
                refine wm_aload_n C rfl dX6_phrase_141 ?_
                refine wm_getI C fqX6_109 hk1 dX6_phrase_142 ?_
                exact wm_iret C hr rfl (Nat.le_of_ble_eq_true rfl) (Nat.le_of_ble_eq_true rfl) ⟨rfl, rfl, rfl, rfl, rfl, _, rfl, h⟩ dX6_phrase_145
              · replace h := h.2 q
                refine wm_iconst C (-1) dX6_phrase_60 ?_ (by decide)
                exact wm_iret C hr rfl (Nat.le_of_ble_eq_true rfl) (Nat.le_of_ble_eq_true rfl) ⟨rfl, rfl, rfl, rfl, rfl, _, rfl, h⟩ dX6_phrase_61
          · replace h := h.2 q
            refine wm_bipush C (-4) dX6_phrase_37 ?_ (by decide)
            exact wm_iret C hr rfl (Nat.le_of_ble_eq_true rfl) (Nat.le_of_ble_eq_true rfl) ⟨rfl, rfl, rfl, rfl, rfl, _, rfl, h⟩ dX6_phrase_39
    · replace h := h.2 q
      refine wm_bipush C (-2) dX6_phrase_18 ?_ (by decide)
      exact wm_iret C hr rfl (Nat.le_of_ble_eq_true rfl) (Nat.le_of_ble_eq_true rfl) ⟨rfl, rfl, rfl, rfl, rfl, _, rfl, h⟩ dX6_phrase_20
set_option maxRecDepth 100000 in
set_option maxHeartbeats 4000000 in
theorem sX6_phrase {l : Launch} {G : Gx} {d : Nat} {K N : TK} {I : TI} {R : TR} {L : TL} {sz : Nat} {φ : Int32 → TI → Prop} {a0 : Nat} {x1 : Int32} {x2 : Int32} {x3 : Int32}
    (h : K a0 = 17 ∧ ∀ I2 : TI, I2 = u2 I a0 0 0 → ((x1 < 1 → φ (-2) I2) ∧ (¬ x1 < 1 → ((x1 ≤ (I2 a0 2) → ((x2 < 0 → φ (-4) I2) ∧ (¬ x2 < 0 → ((2 < x2 → φ (-4) I2) ∧ (¬ 2 < x2 → ∃ φ3 : Int32 → TI → Prop, MtI l G yX6_isWord cX6_isWord 2 (some .boolean) d [.int x3] K N I2 R L sz φ3 ∧ ∀ (r5 : Int32) (I6 : TI), φ3 r5 I6 → ((¬ r5 = 0 → (((I6 a0 3) = 100 → φ (-1) I6) ∧ (¬ (I6 a0 3) = 100 → ∃ b12, R a0 8 = some b12 ∧ K b12 = 20 ∧ vp_in x1 (N b12) ∧ ((¬ (I6 b12 (Int32.toNatClampNeg x1)) = 8 → ∀ I16 : TI, I16 = u2 I6 a0 3 ((I6 a0 3) + 1) → ∃ b17, R a0 12 = some b17 ∧ K b17 = 20 ∧ vp_in (I16 a0 3) (N b17) ∧ ∀ I21 : TI, I21 = u2 I16 b17 (Int32.toNatClampNeg (I16 a0 3)) x2 → ∃ b22, R a0 15 = some b22 ∧ K b22 = 20 ∧ vp_in ((10 * (I21 a0 3)) - 10) (N b22) ∧ ∀ I26 : TI, I26 = u2 I21 b22 (Int32.toNatClampNeg ((10 * (I21 a0 3)) - 10)) x3 → ∃ b27, R a0 13 = some b27 ∧ K b27 = 20 ∧ vp_in (I26 a0 3) (N b27) ∧ ∀ I31 : TI, I31 = u2 I26 b27 (Int32.toNatClampNeg (I26 a0 3)) 1 → ∃ b32, R a0 9 = some b32 ∧ K b32 = 20 ∧ vp_in (((8 * x1) - 8) + (I31 b12 (Int32.toNatClampNeg x1))) (N b32) ∧ ∀ I36 : TI, I36 = u2 I31 b32 (Int32.toNatClampNeg (((8 * x1) - 8) + (I31 b12 (Int32.toNatClampNeg x1)))) (I31 a0 3) → ∀ I37 : TI, I37 = u2 I36 b12 (Int32.toNatClampNeg x1) ((I36 b12 (Int32.toNatClampNeg x1)) + 1) → φ (I37 a0 3) I37) ∧ ((I6 b12 (Int32.toNatClampNeg x1)) = 8 → φ (-1) I6))))) ∧ (r5 = 0 → φ (-4) I6))))))) ∧ (¬ x1 ≤ (I2 a0 2) → φ (-2) I2))))) :
    MtI l G yX6_phrase cX6_phrase 4 (some .int) (d + 1) [.ref a0, .int x1, .int x2, .int x3] K N I R L sz φ :=
  MetM.of (own := RX6) (by decide) rfl (catR (catI (catI (catI cat0)))) (Nat.le_of_ble_eq_true rfl) (fun p e s m args below meth c C hr hnm => vX6_phrase_0 C hr h)
set_option maxRecDepth 100000 in
set_option maxHeartbeats 4000000 in
theorem vX6_from_0 {p : Program} {l : Launch} {e : Env} {s : State} {m : MethodId} {args : Array Value} {below : List Frame} {meth : Method} {c : Code} {G : Gx} {d : Nat} {K N : TK} {I : TI} {R : TR} {L : TL} {sz : Nat} {φ : Int32 → TI → Prop} (C : Cx p s m args meth c (AM K sz) G RX6 cX6_from 3) (hr : meth.sig.returnType = (some .int)) {a0 : Nat} {x1 : Int32} {x2 : Int32}
    (h : K a0 = 17 ∧ ∀ I2 : TI, I2 = u2 I a0 0 0 → ((x1 < 1 → φ (-2) I2) ∧ (¬ x1 < 1 → ((x1 ≤ (I2 a0 3) → ((x2 = 0 → ∃ b3, R a0 12 = some b3 ∧ K b3 = 20 ∧ vp_in x1 (N b3) ∧ ((¬ (I2 b3 (Int32.toNatClampNeg x1)) = 0 → φ (-1) I2) ∧ ((I2 b3 (Int32.toNatClampNeg x1)) = 0 → ∃ b7, R a0 13 = some b7 ∧ K b7 = 20 ∧ vp_in x1 (N b7) ∧ ((¬ (I2 b7 (Int32.toNatClampNeg x1)) = 10 → ((x2 ≤ 0 → φ (I2 b7 (Int32.toNatClampNeg x1)) I2) ∧ (¬ x2 ≤ 0 → ∃ b11, R a0 15 = some b11 ∧ K b11 = 20 ∧ vp_in (((10 * x1) - 10) + (I2 b7 (Int32.toNatClampNeg x1))) (N b11) ∧ ∀ I15 : TI, I15 = u2 I2 b11 (Int32.toNatClampNeg (((10 * x1) - 10) + (I2 b7 (Int32.toNatClampNeg x1)))) x2 → ∀ I16 : TI, I16 = u2 I15 b7 (Int32.toNatClampNeg x1) ((I15 b7 (Int32.toNatClampNeg x1)) + 1) → φ (I16 b7 (Int32.toNatClampNeg x1)) I16))) ∧ ((I2 b7 (Int32.toNatClampNeg x1)) = 10 → φ (-1) I2))))) ∧ (¬ x2 = 0 → ((x2 = (-1) → ∃ b17, R a0 12 = some b17 ∧ K b17 = 20 ∧ vp_in x1 (N b17) ∧ ((¬ (I2 b17 (Int32.toNatClampNeg x1)) = 0 → φ (-1) I2) ∧ ((I2 b17 (Int32.toNatClampNeg x1)) = 0 → ∃ b21, R a0 13 = some b21 ∧ K b21 = 20 ∧ vp_in x1 (N b21) ∧ ((¬ (I2 b21 (Int32.toNatClampNeg x1)) = 10 → ((x2 ≤ 0 → φ (I2 b21 (Int32.toNatClampNeg x1)) I2) ∧ (¬ x2 ≤ 0 → ∃ b25, R a0 15 = some b25 ∧ K b25 = 20 ∧ vp_in (((10 * x1) - 10) + (I2 b21 (Int32.toNatClampNeg x1))) (N b25) ∧ ∀ I29 : TI, I29 = u2 I2 b25 (Int32.toNatClampNeg (((10 * x1) - 10) + (I2 b21 (Int32.toNatClampNeg x1)))) x2 → ∀ I30 : TI, I30 = u2 I29 b21 (Int32.toNatClampNeg x1) ((I29 b21 (Int32.toNatClampNeg x1)) + 1) → φ (I30 b21 (Int32.toNatClampNeg x1)) I30))) ∧ ((I2 b21 (Int32.toNatClampNeg x1)) = 10 → φ (-1) I2))))) ∧ (¬ x2 = (-1) → ∃ φ31 : Int32 → TI → Prop, MtI l G yX6_isWord cX6_isWord 2 (some .boolean) d [.int x2] K N I2 R L sz φ31 ∧ ∀ (r33 : Int32) (I34 : TI), φ31 r33 I34 → ((¬ r33 = 0 → ∃ b40, R a0 12 = some b40 ∧ K b40 = 20 ∧ vp_in x1 (N b40) ∧ ((¬ (I34 b40 (Int32.toNatClampNeg x1)) = 0 → φ (-1) I34) ∧ ((I34 b40 (Int32.toNatClampNeg x1)) = 0 → ∃ b44, R a0 13 = some b44 ∧ K b44 = 20 ∧ vp_in x1 (N b44) ∧ ((¬ (I34 b44 (Int32.toNatClampNeg x1)) = 10 → ((x2 ≤ 0 → φ (I34 b44 (Int32.toNatClampNeg x1)) I34) ∧ (¬ x2 ≤ 0 → ∃ b48, R a0 15 = some b48 ∧ K b48 = 20 ∧ vp_in (((10 * x1) - 10) + (I34 b44 (Int32.toNatClampNeg x1))) (N b48) ∧ ∀ I52 : TI, I52 = u2 I34 b48 (Int32.toNatClampNeg (((10 * x1) - 10) + (I34 b44 (Int32.toNatClampNeg x1)))) x2 → ∀ I53 : TI, I53 = u2 I52 b44 (Int32.toNatClampNeg x1) ((I52 b44 (Int32.toNatClampNeg x1)) + 1) → φ (I53 b44 (Int32.toNatClampNeg x1)) I53))) ∧ ((I34 b44 (Int32.toNatClampNeg x1)) = 10 → φ (-1) I34))))) ∧ (r33 = 0 → φ (-4) I34))))))) ∧ (¬ x1 ≤ (I2 a0 3) → φ (-2) I2))))) :
    WI p l e s m args below meth c G (d + 1) φ K N R L sz 3 0 [(0, .ref a0), (1, .int x1), (2, .int x2)] I := by
  refine wm_aload_n C rfl dX6_from_0 ?_
  refine wm_iconst C 0 dX6_from_1 ?_ (by decide)
  obtain ⟨hk1, h⟩ := h
  refine wm_putI C fqX6_83 hk1 dX6_from_2 ?_
  refine nmI (fun I2 hI2 => ?_)
  replace h := h I2 hI2
  refine wm_iload_n C rfl dX6_from_5 ?_
  refine wm_iconst C 1 dX6_from_6 ?_ (by decide)
  refine wm_icmp_lt C 18 dX6_from_7 (by decide) (fun q => ?_) (fun q => ?_)
  · replace h := h.1 q
    refine wm_bipush C (-2) dX6_from_18 ?_ (by decide)
    exact wm_iret C hr rfl (Nat.le_of_ble_eq_true rfl) (Nat.le_of_ble_eq_true rfl) ⟨rfl, rfl, rfl, rfl, rfl, _, rfl, h⟩ dX6_from_20
  · replace h := h.2 q
    refine wm_iload_n C rfl dX6_from_10 ?_
    refine wm_aload_n C rfl dX6_from_11 ?_
    refine wm_getI C fqX6_109 hk1 dX6_from_12 ?_
    refine wm_icmp_le C 21 dX6_from_15 (by decide) (fun q => ?_) (fun q => ?_)
    · replace h := h.1 q
      refine wm_iload_n C rfl dX6_from_21 ?_
      refine wm_if_eq C 40 dX6_from_22 (by decide) (fun q => ?_) (fun q => ?_)
      · replace h := h.1 q
        refine wm_aload_n C rfl dX6_from_40 ?_
        obtain ⟨b3, hr4, h⟩ := h
        refine wm_getR C fqX6_35 hk1 hr4 dX6_from_41 ?_
        refine wm_iload_n C rfl dX6_from_44 ?_
        obtain ⟨hk5, h⟩ := h
        obtain ⟨hi6, h⟩ := h
        refine wm_iald C hk5 hi6 dX6_from_45 ?_
        refine wm_if_ne C 60 dX6_from_46 (by decide) (fun q => ?_) (fun q => ?_)
        · replace h := h.1 q
          refine wm_iconst C (-1) dX6_from_60 ?_ (by decide)
          exact wm_iret C hr rfl (Nat.le_of_ble_eq_true rfl) (Nat.le_of_ble_eq_true rfl) ⟨rfl, rfl, rfl, rfl, rfl, _, rfl, h⟩ dX6_from_61
        · replace h := h.2 q
          refine wm_aload_n C rfl dX6_from_49 ?_
          obtain ⟨b7, hr8, h⟩ := h
          refine wm_getR C fqX6_38 hk1 hr8 dX6_from_50 ?_
          refine wm_iload_n C rfl dX6_from_53 ?_
          obtain ⟨hk9, h⟩ := h
          obtain ⟨hi10, h⟩ := h
          refine wm_iald C hk9 hi10 dX6_from_54 ?_
          refine wm_bipush C 10 dX6_from_55 ?_ (by decide)
          refine wm_icmp_ne C 62 dX6_from_57 (by decide) (fun q => ?_) (fun q => ?_)
          · replace h := h.1 q
            refine wm_iload_n C rfl dX6_from_62 ?_
            refine wm_if_le C 96 dX6_from_63 (by decide) (fun q => ?_) (fun q => ?_)
            · replace h := h.1 q
              refine wm_aload_n C rfl dX6_from_96 ?_
              refine wm_getR C fqX6_38 hk1 hr8 dX6_from_97 ?_
              refine wm_iload_n C rfl dX6_from_100 ?_
              refine wm_iald C hk9 hi10 dX6_from_101 ?_
              exact wm_iret C hr rfl (Nat.le_of_ble_eq_true rfl) (Nat.le_of_ble_eq_true rfl) ⟨rfl, rfl, rfl, rfl, rfl, _, rfl, h⟩ dX6_from_102
            · replace h := h.2 q
              refine wm_aload_n C rfl dX6_from_66 ?_
              obtain ⟨b11, hr12, h⟩ := h
              refine wm_getR C fqX6_44 hk1 hr12 dX6_from_67 ?_
              refine wm_bipush C 10 dX6_from_70 ?_ (by decide)
              refine wm_iload_n C rfl dX6_from_72 ?_
              refine wm_imul C dX6_from_73 ?_
              refine wm_bipush C 10 dX6_from_74 ?_ (by decide)
              refine wm_isub C dX6_from_76 ?_
              refine wm_aload_n C rfl dX6_from_77 ?_
              refine wm_getR C fqX6_38 hk1 hr8 dX6_from_78 ?_
              refine wm_iload_n C rfl dX6_from_81 ?_
              refine wm_iald C hk9 hi10 dX6_from_82 ?_
              refine wm_iadd C dX6_from_83 ?_
              refine wm_iload_n C rfl dX6_from_84 ?_
              obtain ⟨hk13, h⟩ := h
              obtain ⟨hi14, h⟩ := h
              refine wm_iast C hk13 hi14 dX6_from_85 ?_
              refine nmI (fun I15 hI15 => ?_)
              replace h := h I15 hI15
              refine wm_aload_n C rfl dX6_from_86 ?_
              refine wm_getR C fqX6_38 hk1 hr8 dX6_from_87 ?_
              refine wm_iload_n C rfl dX6_from_90 ?_
              refine wm_dup2 C rfl rfl dX6_from_91 ?_
              refine wm_iald C hk9 hi10 dX6_from_92 ?_
              refine wm_iconst C 1 dX6_from_93 ?_ (by decide)
              refine wm_iadd C dX6_from_94 ?_
              refine wm_iast C hk9 hi10 dX6_from_95 ?_
              refine nmI (fun I16 hI16 => ?_)
              replace h := h I16 hI16
              refine wm_aload_n C rfl dX6_from_96 ?_
              refine wm_getR C fqX6_38 hk1 hr8 dX6_from_97 ?_
              refine wm_iload_n C rfl dX6_from_100 ?_
              refine wm_iald C hk9 hi10 dX6_from_101 ?_
              exact wm_iret C hr rfl (Nat.le_of_ble_eq_true rfl) (Nat.le_of_ble_eq_true rfl) ⟨rfl, rfl, rfl, rfl, rfl, _, rfl, h⟩ dX6_from_102
          · replace h := h.2 q
            refine wm_iconst C (-1) dX6_from_60 ?_ (by decide)
            exact wm_iret C hr rfl (Nat.le_of_ble_eq_true rfl) (Nat.le_of_ble_eq_true rfl) ⟨rfl, rfl, rfl, rfl, rfl, _, rfl, h⟩ dX6_from_61
      · replace h := h.2 q
        refine wm_iload_n C rfl dX6_from_25 ?_
        refine wm_iconst C (-1) dX6_from_26 ?_ (by decide)
        refine wm_icmp_eq C 40 dX6_from_27 (by decide) (fun q => ?_) (fun q => ?_)
        · replace h := h.1 q
          refine wm_aload_n C rfl dX6_from_40 ?_
          obtain ⟨b17, hr18, h⟩ := h
          refine wm_getR C fqX6_35 hk1 hr18 dX6_from_41 ?_
          refine wm_iload_n C rfl dX6_from_44 ?_
          obtain ⟨hk19, h⟩ := h
          obtain ⟨hi20, h⟩ := h
          refine wm_iald C hk19 hi20 dX6_from_45 ?_
          refine wm_if_ne C 60 dX6_from_46 (by decide) (fun q => ?_) (fun q => ?_)
          · replace h := h.1 q
            refine wm_iconst C (-1) dX6_from_60 ?_ (by decide)
            exact wm_iret C hr rfl (Nat.le_of_ble_eq_true rfl) (Nat.le_of_ble_eq_true rfl) ⟨rfl, rfl, rfl, rfl, rfl, _, rfl, h⟩ dX6_from_61
          · replace h := h.2 q
            refine wm_aload_n C rfl dX6_from_49 ?_
            obtain ⟨b21, hr22, h⟩ := h
            refine wm_getR C fqX6_38 hk1 hr22 dX6_from_50 ?_
            refine wm_iload_n C rfl dX6_from_53 ?_
            obtain ⟨hk23, h⟩ := h
            obtain ⟨hi24, h⟩ := h
            refine wm_iald C hk23 hi24 dX6_from_54 ?_
            refine wm_bipush C 10 dX6_from_55 ?_ (by decide)
            refine wm_icmp_ne C 62 dX6_from_57 (by decide) (fun q => ?_) (fun q => ?_)
            · replace h := h.1 q
              refine wm_iload_n C rfl dX6_from_62 ?_
              refine wm_if_le C 96 dX6_from_63 (by decide) (fun q => ?_) (fun q => ?_)
              · replace h := h.1 q
                refine wm_aload_n C rfl dX6_from_96 ?_
                refine wm_getR C fqX6_38 hk1 hr22 dX6_from_97 ?_
                refine wm_iload_n C rfl dX6_from_100 ?_
                refine wm_iald C hk23 hi24 dX6_from_101 ?_
                exact wm_iret C hr rfl (Nat.le_of_ble_eq_true rfl) (Nat.le_of_ble_eq_true rfl) ⟨rfl, rfl, rfl, rfl, rfl, _, rfl, h⟩ dX6_from_102
              · replace h := h.2 q
                refine wm_aload_n C rfl dX6_from_66 ?_
                obtain ⟨b25, hr26, h⟩ := h
                refine wm_getR C fqX6_44 hk1 hr26 dX6_from_67 ?_
                refine wm_bipush C 10 dX6_from_70 ?_ (by decide)
                refine wm_iload_n C rfl dX6_from_72 ?_
                refine wm_imul C dX6_from_73 ?_
                refine wm_bipush C 10 dX6_from_74 ?_ (by decide)
                refine wm_isub C dX6_from_76 ?_
                refine wm_aload_n C rfl dX6_from_77 ?_
                refine wm_getR C fqX6_38 hk1 hr22 dX6_from_78 ?_
                refine wm_iload_n C rfl dX6_from_81 ?_
                refine wm_iald C hk23 hi24 dX6_from_82 ?_
                refine wm_iadd C dX6_from_83 ?_
                refine wm_iload_n C rfl dX6_from_84 ?_
                obtain ⟨hk27, h⟩ := h
                obtain ⟨hi28, h⟩ := h
                refine wm_iast C hk27 hi28 dX6_from_85 ?_
                refine nmI (fun I29 hI29 => ?_)
                replace h := h I29 hI29
                refine wm_aload_n C rfl dX6_from_86 ?_
                refine wm_getR C fqX6_38 hk1 hr22 dX6_from_87 ?_
                refine wm_iload_n C rfl dX6_from_90 ?_
                refine wm_dup2 C rfl rfl dX6_from_91 ?_
                refine wm_iald C hk23 hi24 dX6_from_92 ?_
                refine wm_iconst C 1 dX6_from_93 ?_ (by decide)
                refine wm_iadd C dX6_from_94 ?_
                refine wm_iast C hk23 hi24 dX6_from_95 ?_
                refine nmI (fun I30 hI30 => ?_)
                replace h := h I30 hI30
                refine wm_aload_n C rfl dX6_from_96 ?_
                refine wm_getR C fqX6_38 hk1 hr22 dX6_from_97 ?_
                refine wm_iload_n C rfl dX6_from_100 ?_
                refine wm_iald C hk23 hi24 dX6_from_101 ?_
                exact wm_iret C hr rfl (Nat.le_of_ble_eq_true rfl) (Nat.le_of_ble_eq_true rfl) ⟨rfl, rfl, rfl, rfl, rfl, _, rfl, h⟩ dX6_from_102
            · replace h := h.2 q
              refine wm_iconst C (-1) dX6_from_60 ?_ (by decide)
              exact wm_iret C hr rfl (Nat.le_of_ble_eq_true rfl) (Nat.le_of_ble_eq_true rfl) ⟨rfl, rfl, rfl, rfl, rfl, _, rfl, h⟩ dX6_from_61
        · replace h := h.2 q
          refine wm_iload_n C rfl dX6_from_30 ?_
          obtain ⟨φ31, hM32, h⟩ := h
          refine wm_cSI1 C sqX6_95 hM32 ⟨Nat.le_refl _, Nat.le_refl _⟩ (Nat.le_of_ble_eq_true rfl) ⟨Nat.le_of_ble_eq_true rfl, Nat.le_of_ble_eq_true rfl⟩ dX6_from_31 (fun r33 I34 hφ39 => ?_)
          replace h := h r33 I34 hφ39
          refine wm_if_ne C 40 dX6_from_34 (by decide) (fun q => ?_) (fun q => ?_)
          · replace h := h.1 q
            refine wm_aload_n C rfl dX6_from_40 ?_
            obtain ⟨b40, hr41, h⟩ := h
            refine wm_getR C fqX6_35 hk1 hr41 dX6_from_41 ?_
            refine wm_iload_n C rfl dX6_from_44 ?_
            obtain ⟨hk42, h⟩ := h
            obtain ⟨hi43, h⟩ := h
            refine wm_iald C hk42 hi43 dX6_from_45 ?_
            refine wm_if_ne C 60 dX6_from_46 (by decide) (fun q => ?_) (fun q => ?_)
            · replace h := h.1 q
              refine wm_iconst C (-1) dX6_from_60 ?_ (by decide)
              exact wm_iret C hr rfl (Nat.le_of_ble_eq_true rfl) (Nat.le_of_ble_eq_true rfl) ⟨rfl, rfl, rfl, rfl, rfl, _, rfl, h⟩ dX6_from_61
            · replace h := h.2 q
              refine wm_aload_n C rfl dX6_from_49 ?_
              obtain ⟨b44, hr45, h⟩ := h
              refine wm_getR C fqX6_38 hk1 hr45 dX6_from_50 ?_
              refine wm_iload_n C rfl dX6_from_53 ?_
              obtain ⟨hk46, h⟩ := h
              obtain ⟨hi47, h⟩ := h
              refine wm_iald C hk46 hi47 dX6_from_54 ?_
              refine wm_bipush C 10 dX6_from_55 ?_ (by decide)
              refine wm_icmp_ne C 62 dX6_from_57 (by decide) (fun q => ?_) (fun q => ?_)
              · replace h := h.1 q
                refine wm_iload_n C rfl dX6_from_62 ?_
                refine wm_if_le C 96 dX6_from_63 (by decide) (fun q => ?_) (fun q => ?_)
                · replace h := h.1 q
                  refine wm_aload_n C rfl dX6_from_96 ?_
                  refine wm_getR C fqX6_38 hk1 hr45 dX6_from_97 ?_
                  refine wm_iload_n C rfl dX6_from_100 ?_
                  refine wm_iald C hk46 hi47 dX6_from_101 ?_
                  exact wm_iret C hr rfl (Nat.le_of_ble_eq_true rfl) (Nat.le_of_ble_eq_true rfl) ⟨rfl, rfl, rfl, rfl, rfl, _, rfl, h⟩ dX6_from_102
                · replace h := h.2 q
                  refine wm_aload_n C rfl dX6_from_66 ?_
                  obtain ⟨b48, hr49, h⟩ := h
                  refine wm_getR C fqX6_44 hk1 hr49 dX6_from_67 ?_
                  refine wm_bipush C 10 dX6_from_70 ?_ (by decide)
                  refine wm_iload_n C rfl dX6_from_72 ?_
                  refine wm_imul C dX6_from_73 ?_
                  refine wm_bipush C 10 dX6_from_74 ?_ (by decide)
                  refine wm_isub C dX6_from_76 ?_
                  refine wm_aload_n C rfl dX6_from_77 ?_
                  refine wm_getR C fqX6_38 hk1 hr45 dX6_from_78 ?_
                  refine wm_iload_n C rfl dX6_from_81 ?_
                  refine wm_iald C hk46 hi47 dX6_from_82 ?_
                  refine wm_iadd C dX6_from_83 ?_
                  refine wm_iload_n C rfl dX6_from_84 ?_
                  obtain ⟨hk50, h⟩ := h
                  obtain ⟨hi51, h⟩ := h
                  refine wm_iast C hk50 hi51 dX6_from_85 ?_
                  refine nmI (fun I52 hI52 => ?_)
                  replace h := h I52 hI52
                  refine wm_aload_n C rfl dX6_from_86 ?_
                  refine wm_getR C fqX6_38 hk1 hr45 dX6_from_87 ?_
                  refine wm_iload_n C rfl dX6_from_90 ?_
                  refine wm_dup2 C rfl rfl dX6_from_91 ?_
                  refine wm_iald C hk46 hi47 dX6_from_92 ?_
                  refine wm_iconst C 1 dX6_from_93 ?_ (by decide)
                  refine wm_iadd C dX6_from_94 ?_
                  refine wm_iast C hk46 hi47 dX6_from_95 ?_
                  refine nmI (fun I53 hI53 => ?_)
                  replace h := h I53 hI53
                  refine wm_aload_n C rfl dX6_from_96 ?_
                  refine wm_getR C fqX6_38 hk1 hr45 dX6_from_97 ?_
                  refine wm_iload_n C rfl dX6_from_100 ?_
                  refine wm_iald C hk46 hi47 dX6_from_101 ?_
                  exact wm_iret C hr rfl (Nat.le_of_ble_eq_true rfl) (Nat.le_of_ble_eq_true rfl) ⟨rfl, rfl, rfl, rfl, rfl, _, rfl, h⟩ dX6_from_102
              · replace h := h.2 q
                refine wm_iconst C (-1) dX6_from_60 ?_ (by decide)
                exact wm_iret C hr rfl (Nat.le_of_ble_eq_true rfl) (Nat.le_of_ble_eq_true rfl) ⟨rfl, rfl, rfl, rfl, rfl, _, rfl, h⟩ dX6_from_61
          · replace h := h.2 q
            refine wm_bipush C (-4) dX6_from_37 ?_ (by decide)
            exact wm_iret C hr rfl (Nat.le_of_ble_eq_true rfl) (Nat.le_of_ble_eq_true rfl) ⟨rfl, rfl, rfl, rfl, rfl, _, rfl, h⟩ dX6_from_39
    · replace h := h.2 q
      refine wm_bipush C (-2) dX6_from_18 ?_ (by decide)
      exact wm_iret C hr rfl (Nat.le_of_ble_eq_true rfl) (Nat.le_of_ble_eq_true rfl) ⟨rfl, rfl, rfl, rfl, rfl, _, rfl, h⟩ dX6_from_20
set_option maxRecDepth 100000 in
set_option maxHeartbeats 4000000 in
theorem sX6_from {l : Launch} {G : Gx} {d : Nat} {K N : TK} {I : TI} {R : TR} {L : TL} {sz : Nat} {φ : Int32 → TI → Prop} {a0 : Nat} {x1 : Int32} {x2 : Int32}
    (h : K a0 = 17 ∧ ∀ I2 : TI, I2 = u2 I a0 0 0 → ((x1 < 1 → φ (-2) I2) ∧ (¬ x1 < 1 → ((x1 ≤ (I2 a0 3) → ((x2 = 0 → ∃ b3, R a0 12 = some b3 ∧ K b3 = 20 ∧ vp_in x1 (N b3) ∧ ((¬ (I2 b3 (Int32.toNatClampNeg x1)) = 0 → φ (-1) I2) ∧ ((I2 b3 (Int32.toNatClampNeg x1)) = 0 → ∃ b7, R a0 13 = some b7 ∧ K b7 = 20 ∧ vp_in x1 (N b7) ∧ ((¬ (I2 b7 (Int32.toNatClampNeg x1)) = 10 → ((x2 ≤ 0 → φ (I2 b7 (Int32.toNatClampNeg x1)) I2) ∧ (¬ x2 ≤ 0 → ∃ b11, R a0 15 = some b11 ∧ K b11 = 20 ∧ vp_in (((10 * x1) - 10) + (I2 b7 (Int32.toNatClampNeg x1))) (N b11) ∧ ∀ I15 : TI, I15 = u2 I2 b11 (Int32.toNatClampNeg (((10 * x1) - 10) + (I2 b7 (Int32.toNatClampNeg x1)))) x2 → ∀ I16 : TI, I16 = u2 I15 b7 (Int32.toNatClampNeg x1) ((I15 b7 (Int32.toNatClampNeg x1)) + 1) → φ (I16 b7 (Int32.toNatClampNeg x1)) I16))) ∧ ((I2 b7 (Int32.toNatClampNeg x1)) = 10 → φ (-1) I2))))) ∧ (¬ x2 = 0 → ((x2 = (-1) → ∃ b17, R a0 12 = some b17 ∧ K b17 = 20 ∧ vp_in x1 (N b17) ∧ ((¬ (I2 b17 (Int32.toNatClampNeg x1)) = 0 → φ (-1) I2) ∧ ((I2 b17 (Int32.toNatClampNeg x1)) = 0 → ∃ b21, R a0 13 = some b21 ∧ K b21 = 20 ∧ vp_in x1 (N b21) ∧ ((¬ (I2 b21 (Int32.toNatClampNeg x1)) = 10 → ((x2 ≤ 0 → φ (I2 b21 (Int32.toNatClampNeg x1)) I2) ∧ (¬ x2 ≤ 0 → ∃ b25, R a0 15 = some b25 ∧ K b25 = 20 ∧ vp_in (((10 * x1) - 10) + (I2 b21 (Int32.toNatClampNeg x1))) (N b25) ∧ ∀ I29 : TI, I29 = u2 I2 b25 (Int32.toNatClampNeg (((10 * x1) - 10) + (I2 b21 (Int32.toNatClampNeg x1)))) x2 → ∀ I30 : TI, I30 = u2 I29 b21 (Int32.toNatClampNeg x1) ((I29 b21 (Int32.toNatClampNeg x1)) + 1) → φ (I30 b21 (Int32.toNatClampNeg x1)) I30))) ∧ ((I2 b21 (Int32.toNatClampNeg x1)) = 10 → φ (-1) I2))))) ∧ (¬ x2 = (-1) → ∃ φ31 : Int32 → TI → Prop, MtI l G yX6_isWord cX6_isWord 2 (some .boolean) d [.int x2] K N I2 R L sz φ31 ∧ ∀ (r33 : Int32) (I34 : TI), φ31 r33 I34 → ((¬ r33 = 0 → ∃ b40, R a0 12 = some b40 ∧ K b40 = 20 ∧ vp_in x1 (N b40) ∧ ((¬ (I34 b40 (Int32.toNatClampNeg x1)) = 0 → φ (-1) I34) ∧ ((I34 b40 (Int32.toNatClampNeg x1)) = 0 → ∃ b44, R a0 13 = some b44 ∧ K b44 = 20 ∧ vp_in x1 (N b44) ∧ ((¬ (I34 b44 (Int32.toNatClampNeg x1)) = 10 → ((x2 ≤ 0 → φ (I34 b44 (Int32.toNatClampNeg x1)) I34) ∧ (¬ x2 ≤ 0 → ∃ b48, R a0 15 = some b48 ∧ K b48 = 20 ∧ vp_in (((10 * x1) - 10) + (I34 b44 (Int32.toNatClampNeg x1))) (N b48) ∧ ∀ I52 : TI, I52 = u2 I34 b48 (Int32.toNatClampNeg (((10 * x1) - 10) + (I34 b44 (Int32.toNatClampNeg x1)))) x2 → ∀ I53 : TI, I53 = u2 I52 b44 (Int32.toNatClampNeg x1) ((I52 b44 (Int32.toNatClampNeg x1)) + 1) → φ (I53 b44 (Int32.toNatClampNeg x1)) I53))) ∧ ((I34 b44 (Int32.toNatClampNeg x1)) = 10 → φ (-1) I34))))) ∧ (r33 = 0 → φ (-4) I34))))))) ∧ (¬ x1 ≤ (I2 a0 3) → φ (-2) I2))))) :
    MtI l G yX6_from cX6_from 3 (some .int) (d + 1) [.ref a0, .int x1, .int x2] K N I R L sz φ :=
  MetM.of (own := RX6) (by decide) rfl (catR (catI (catI cat0))) (Nat.le_of_ble_eq_true rfl) (fun p e s m args below meth c C hr hnm => vX6_from_0 C hr h)
set_option maxRecDepth 100000 in
set_option maxHeartbeats 4000000 in
theorem vX6_to_0 {p : Program} {l : Launch} {e : Env} {s : State} {m : MethodId} {args : Array Value} {below : List Frame} {meth : Method} {c : Code} {G : Gx} {d : Nat} {K N : TK} {I : TI} {R : TR} {L : TL} {sz : Nat} {φ : Int32 → TI → Prop} (C : Cx p s m args meth c (AM K sz) G RX6 cX6_to 3) (hr : meth.sig.returnType = (some .int)) {a0 : Nat} {x1 : Int32} {x2 : Int32}
    (h : K a0 = 17 ∧ ∀ I2 : TI, I2 = u2 I a0 0 0 → ((x1 < 1 → φ (-2) I2) ∧ (¬ x1 < 1 → ((x1 ≤ (I2 a0 3) → ∃ φ3 : Int32 → TI → Prop, MtI l G yX6_isWord cX6_isWord 2 (some .boolean) d [.int x2] K N I2 R L sz φ3 ∧ ∀ (r5 : Int32) (I6 : TI), φ3 r5 I6 → ((¬ r5 = 0 → ∃ b12, R a0 14 = some b12 ∧ K b12 = 20 ∧ vp_in x1 (N b12) ∧ ∃ b16, R a0 12 = some b16 ∧ K b16 = 20 ∧ vp_in x1 (N b16) ∧ ((¬ (I6 b16 (Int32.toNatClampNeg x1)) = 0 → ((¬ (I6 b12 (Int32.toNatClampNeg x1)) = 1 → ∃ b20, R a0 16 = some b20 ∧ K b20 = 20 ∧ vp_in (((10 * x1) - 10) + (I6 b12 (Int32.toNatClampNeg x1))) (N b20) ∧ ∀ I24 : TI, I24 = u2 I6 b20 (Int32.toNatClampNeg (((10 * x1) - 10) + (I6 b12 (Int32.toNatClampNeg x1)))) x2 → ∀ I25 : TI, I25 = u2 I24 b12 (Int32.toNatClampNeg x1) ((I24 b12 (Int32.toNatClampNeg x1)) + 1) → φ (I25 b12 (Int32.toNatClampNeg x1)) I25) ∧ ((I6 b12 (Int32.toNatClampNeg x1)) = 1 → φ (-1) I6))) ∧ ((I6 b16 (Int32.toNatClampNeg x1)) = 0 → ((¬ (I6 b12 (Int32.toNatClampNeg x1)) = 10 → ∃ b26, R a0 16 = some b26 ∧ K b26 = 20 ∧ vp_in (((10 * x1) - 10) + (I6 b12 (Int32.toNatClampNeg x1))) (N b26) ∧ ∀ I30 : TI, I30 = u2 I6 b26 (Int32.toNatClampNeg (((10 * x1) - 10) + (I6 b12 (Int32.toNatClampNeg x1)))) x2 → ∀ I31 : TI, I31 = u2 I30 b12 (Int32.toNatClampNeg x1) ((I30 b12 (Int32.toNatClampNeg x1)) + 1) → φ (I31 b12 (Int32.toNatClampNeg x1)) I31) ∧ ((I6 b12 (Int32.toNatClampNeg x1)) = 10 → φ (-1) I6))))) ∧ (r5 = 0 → ∃ b32, R a0 12 = some b32 ∧ K b32 = 20 ∧ vp_in x1 (N b32) ∧ ((¬ (I6 b32 (Int32.toNatClampNeg x1)) = 0 → φ (-4) I6) ∧ ((I6 b32 (Int32.toNatClampNeg x1)) = 0 → ((x2 = 0 → ∃ b36, R a0 14 = some b36 ∧ K b36 = 20 ∧ vp_in x1 (N b36) ∧ ((¬ (I6 b32 (Int32.toNatClampNeg x1)) = 0 → ((¬ (I6 b36 (Int32.toNatClampNeg x1)) = 1 → ∃ b40, R a0 16 = some b40 ∧ K b40 = 20 ∧ vp_in (((10 * x1) - 10) + (I6 b36 (Int32.toNatClampNeg x1))) (N b40) ∧ ∀ I44 : TI, I44 = u2 I6 b40 (Int32.toNatClampNeg (((10 * x1) - 10) + (I6 b36 (Int32.toNatClampNeg x1)))) x2 → ∀ I45 : TI, I45 = u2 I44 b36 (Int32.toNatClampNeg x1) ((I44 b36 (Int32.toNatClampNeg x1)) + 1) → φ (I45 b36 (Int32.toNatClampNeg x1)) I45) ∧ ((I6 b36 (Int32.toNatClampNeg x1)) = 1 → φ (-1) I6))) ∧ ((I6 b32 (Int32.toNatClampNeg x1)) = 0 → ((¬ (I6 b36 (Int32.toNatClampNeg x1)) = 10 → ∃ b46, R a0 16 = some b46 ∧ K b46 = 20 ∧ vp_in (((10 * x1) - 10) + (I6 b36 (Int32.toNatClampNeg x1))) (N b46) ∧ ∀ I50 : TI, I50 = u2 I6 b46 (Int32.toNatClampNeg (((10 * x1) - 10) + (I6 b36 (Int32.toNatClampNeg x1)))) x2 → ∀ I51 : TI, I51 = u2 I50 b36 (Int32.toNatClampNeg x1) ((I50 b36 (Int32.toNatClampNeg x1)) + 1) → φ (I51 b36 (Int32.toNatClampNeg x1)) I51) ∧ ((I6 b36 (Int32.toNatClampNeg x1)) = 10 → φ (-1) I6))))) ∧ (¬ x2 = 0 → ((x2 = (-1) → ∃ b52, R a0 14 = some b52 ∧ K b52 = 20 ∧ vp_in x1 (N b52) ∧ ((¬ (I6 b32 (Int32.toNatClampNeg x1)) = 0 → ((¬ (I6 b52 (Int32.toNatClampNeg x1)) = 1 → ∃ b56, R a0 16 = some b56 ∧ K b56 = 20 ∧ vp_in (((10 * x1) - 10) + (I6 b52 (Int32.toNatClampNeg x1))) (N b56) ∧ ∀ I60 : TI, I60 = u2 I6 b56 (Int32.toNatClampNeg (((10 * x1) - 10) + (I6 b52 (Int32.toNatClampNeg x1)))) x2 → ∀ I61 : TI, I61 = u2 I60 b52 (Int32.toNatClampNeg x1) ((I60 b52 (Int32.toNatClampNeg x1)) + 1) → φ (I61 b52 (Int32.toNatClampNeg x1)) I61) ∧ ((I6 b52 (Int32.toNatClampNeg x1)) = 1 → φ (-1) I6))) ∧ ((I6 b32 (Int32.toNatClampNeg x1)) = 0 → ((¬ (I6 b52 (Int32.toNatClampNeg x1)) = 10 → ∃ b62, R a0 16 = some b62 ∧ K b62 = 20 ∧ vp_in (((10 * x1) - 10) + (I6 b52 (Int32.toNatClampNeg x1))) (N b62) ∧ ∀ I66 : TI, I66 = u2 I6 b62 (Int32.toNatClampNeg (((10 * x1) - 10) + (I6 b52 (Int32.toNatClampNeg x1)))) x2 → ∀ I67 : TI, I67 = u2 I66 b52 (Int32.toNatClampNeg x1) ((I66 b52 (Int32.toNatClampNeg x1)) + 1) → φ (I67 b52 (Int32.toNatClampNeg x1)) I67) ∧ ((I6 b52 (Int32.toNatClampNeg x1)) = 10 → φ (-1) I6))))) ∧ (¬ x2 = (-1) → φ (-4) I6))))))))) ∧ (¬ x1 ≤ (I2 a0 3) → φ (-2) I2))))) :
    WI p l e s m args below meth c G (d + 1) φ K N R L sz 3 0 [(0, .ref a0), (1, .int x1), (2, .int x2)] I := by
  refine wm_aload_n C rfl dX6_to_0 ?_
  refine wm_iconst C 0 dX6_to_1 ?_ (by decide)
  obtain ⟨hk1, h⟩ := h
  refine wm_putI C fqX6_83 hk1 dX6_to_2 ?_
  refine nmI (fun I2 hI2 => ?_)
  replace h := h I2 hI2
  refine wm_iload_n C rfl dX6_to_5 ?_
  refine wm_iconst C 1 dX6_to_6 ?_ (by decide)
  refine wm_icmp_lt C 18 dX6_to_7 (by decide) (fun q => ?_) (fun q => ?_)
  · replace h := h.1 q
    refine wm_bipush C (-2) dX6_to_18 ?_ (by decide)
    exact wm_iret C hr rfl (Nat.le_of_ble_eq_true rfl) (Nat.le_of_ble_eq_true rfl) ⟨rfl, rfl, rfl, rfl, rfl, _, rfl, h⟩ dX6_to_20
  · replace h := h.2 q
    refine wm_iload_n C rfl dX6_to_10 ?_
    refine wm_aload_n C rfl dX6_to_11 ?_
    refine wm_getI C fqX6_109 hk1 dX6_to_12 ?_
    refine wm_icmp_le C 21 dX6_to_15 (by decide) (fun q => ?_) (fun q => ?_)
    · replace h := h.1 q
      refine wm_iload_n C rfl dX6_to_21 ?_
      obtain ⟨φ3, hM4, h⟩ := h
      refine wm_cSI1 C sqX6_95 hM4 ⟨Nat.le_refl _, Nat.le_refl _⟩ (Nat.le_of_ble_eq_true rfl) ⟨Nat.le_of_ble_eq_true rfl, Nat.le_of_ble_eq_true rfl⟩ dX6_to_22 (fun r5 I6 hφ11 => ?_)
      replace h := h r5 I6 hφ11
      refine wm_if_ne C 49 dX6_to_25 (by decide) (fun q => ?_) (fun q => ?_)
      · replace h := h.1 q
        refine wm_aload_n C rfl dX6_to_49 ?_
        obtain ⟨b12, hr13, h⟩ := h
        refine wm_getR C fqX6_41 hk1 hr13 dX6_to_50 ?_
        refine wm_iload_n C rfl dX6_to_53 ?_
        obtain ⟨hk14, h⟩ := h
        obtain ⟨hi15, h⟩ := h
        refine wm_iald C hk14 hi15 dX6_to_54 ?_
        refine wm_aload_n C rfl dX6_to_55 ?_
        obtain ⟨b16, hr17, h⟩ := h
        refine wm_getR C fqX6_35 hk1 hr17 dX6_to_56 ?_
        refine wm_iload_n C rfl dX6_to_59 ?_
        obtain ⟨hk18, h⟩ := h
        obtain ⟨hi19, h⟩ := h
        refine wm_iald C hk18 hi19 dX6_to_60 ?_
        refine wm_if_ne C 69 dX6_to_61 (by decide) (fun q => ?_) (fun q => ?_)
        · replace h := h.1 q
          refine wm_iconst C 1 dX6_to_69 ?_ (by decide)
          refine wm_icmp_ne C 75 dX6_to_70 (by decide) (fun q => ?_) (fun q => ?_)
          · replace h := h.1 q
            refine wm_aload_n C rfl dX6_to_75 ?_
            obtain ⟨b20, hr21, h⟩ := h
            refine wm_getR C fqX6_47 hk1 hr21 dX6_to_76 ?_
            refine wm_bipush C 10 dX6_to_79 ?_ (by decide)
            refine wm_iload_n C rfl dX6_to_81 ?_
            refine wm_imul C dX6_to_82 ?_
            refine wm_bipush C 10 dX6_to_83 ?_ (by decide)
            refine wm_isub C dX6_to_85 ?_
            refine wm_aload_n C rfl dX6_to_86 ?_
            refine wm_getR C fqX6_41 hk1 hr13 dX6_to_87 ?_
            refine wm_iload_n C rfl dX6_to_90 ?_
            refine wm_iald C hk14 hi15 dX6_to_91 ?_
            refine wm_iadd C dX6_to_92 ?_
            refine wm_iload_n C rfl dX6_to_93 ?_
            obtain ⟨hk22, h⟩ := h
            obtain ⟨hi23, h⟩ := h
            refine wm_iast C hk22 hi23 dX6_to_94 ?_
            refine nmI (fun I24 hI24 => ?_)
            replace h := h I24 hI24
            refine wm_aload_n C rfl dX6_to_95 ?_
            refine wm_getR C fqX6_41 hk1 hr13 dX6_to_96 ?_
            refine wm_iload_n C rfl dX6_to_99 ?_
            refine wm_dup2 C rfl rfl dX6_to_100 ?_
            refine wm_iald C hk14 hi15 dX6_to_101 ?_
            refine wm_iconst C 1 dX6_to_102 ?_ (by decide)
            refine wm_iadd C dX6_to_103 ?_
            refine wm_iast C hk14 hi15 dX6_to_104 ?_
            refine nmI (fun I25 hI25 => ?_)
            replace h := h I25 hI25
            refine wm_aload_n C rfl dX6_to_105 ?_
            refine wm_getR C fqX6_41 hk1 hr13 dX6_to_106 ?_
            refine wm_iload_n C rfl dX6_to_109 ?_
            refine wm_iald C hk14 hi15 dX6_to_110 ?_
            exact wm_iret C hr rfl (Nat.le_of_ble_eq_true rfl) (Nat.le_of_ble_eq_true rfl) ⟨rfl, rfl, rfl, rfl, rfl, _, rfl, h⟩ dX6_to_111
          · replace h := h.2 q
            refine wm_iconst C (-1) dX6_to_73 ?_ (by decide)
            exact wm_iret C hr rfl (Nat.le_of_ble_eq_true rfl) (Nat.le_of_ble_eq_true rfl) ⟨rfl, rfl, rfl, rfl, rfl, _, rfl, h⟩ dX6_to_74
        · replace h := h.2 q
          refine wm_bipush C 10 dX6_to_64 ?_ (by decide)
          refine wm_goto C 70 dX6_to_66 ?_ (by decide)
          refine wm_icmp_ne C 75 dX6_to_70 (by decide) (fun q => ?_) (fun q => ?_)
          · replace h := h.1 q
            refine wm_aload_n C rfl dX6_to_75 ?_
            obtain ⟨b26, hr27, h⟩ := h
            refine wm_getR C fqX6_47 hk1 hr27 dX6_to_76 ?_
            refine wm_bipush C 10 dX6_to_79 ?_ (by decide)
            refine wm_iload_n C rfl dX6_to_81 ?_
            refine wm_imul C dX6_to_82 ?_
            refine wm_bipush C 10 dX6_to_83 ?_ (by decide)
            refine wm_isub C dX6_to_85 ?_
            refine wm_aload_n C rfl dX6_to_86 ?_
            refine wm_getR C fqX6_41 hk1 hr13 dX6_to_87 ?_
            refine wm_iload_n C rfl dX6_to_90 ?_
            refine wm_iald C hk14 hi15 dX6_to_91 ?_
            refine wm_iadd C dX6_to_92 ?_
            refine wm_iload_n C rfl dX6_to_93 ?_
            obtain ⟨hk28, h⟩ := h
            obtain ⟨hi29, h⟩ := h
            refine wm_iast C hk28 hi29 dX6_to_94 ?_
            refine nmI (fun I30 hI30 => ?_)
            replace h := h I30 hI30
            refine wm_aload_n C rfl dX6_to_95 ?_
            refine wm_getR C fqX6_41 hk1 hr13 dX6_to_96 ?_
            refine wm_iload_n C rfl dX6_to_99 ?_
            refine wm_dup2 C rfl rfl dX6_to_100 ?_
            refine wm_iald C hk14 hi15 dX6_to_101 ?_
            refine wm_iconst C 1 dX6_to_102 ?_ (by decide)
            refine wm_iadd C dX6_to_103 ?_
            refine wm_iast C hk14 hi15 dX6_to_104 ?_
            refine nmI (fun I31 hI31 => ?_)
            replace h := h I31 hI31
            refine wm_aload_n C rfl dX6_to_105 ?_
            refine wm_getR C fqX6_41 hk1 hr13 dX6_to_106 ?_
            refine wm_iload_n C rfl dX6_to_109 ?_
            refine wm_iald C hk14 hi15 dX6_to_110 ?_
            exact wm_iret C hr rfl (Nat.le_of_ble_eq_true rfl) (Nat.le_of_ble_eq_true rfl) ⟨rfl, rfl, rfl, rfl, rfl, _, rfl, h⟩ dX6_to_111
          · replace h := h.2 q
            refine wm_iconst C (-1) dX6_to_73 ?_ (by decide)
            exact wm_iret C hr rfl (Nat.le_of_ble_eq_true rfl) (Nat.le_of_ble_eq_true rfl) ⟨rfl, rfl, rfl, rfl, rfl, _, rfl, h⟩ dX6_to_74
      · replace h := h.2 q
        refine wm_aload_n C rfl dX6_to_28 ?_
        obtain ⟨b32, hr33, h⟩ := h
        refine wm_getR C fqX6_35 hk1 hr33 dX6_to_29 ?_
        refine wm_iload_n C rfl dX6_to_32 ?_
        obtain ⟨hk34, h⟩ := h
        obtain ⟨hi35, h⟩ := h
        refine wm_iald C hk34 hi35 dX6_to_33 ?_
        refine wm_if_ne C 46 dX6_to_34 (by decide) (fun q => ?_) (fun q => ?_)
        · replace h := h.1 q
          refine wm_bipush C (-4) dX6_to_46 ?_ (by decide)
          exact wm_iret C hr rfl (Nat.le_of_ble_eq_true rfl) (Nat.le_of_ble_eq_true rfl) ⟨rfl, rfl, rfl, rfl, rfl, _, rfl, h⟩ dX6_to_48
        · replace h := h.2 q
          refine wm_iload_n C rfl dX6_to_37 ?_
          refine wm_if_eq C 49 dX6_to_38 (by decide) (fun q => ?_) (fun q => ?_)
          · replace h := h.1 q
            refine wm_aload_n C rfl dX6_to_49 ?_
            obtain ⟨b36, hr37, h⟩ := h
            refine wm_getR C fqX6_41 hk1 hr37 dX6_to_50 ?_
            refine wm_iload_n C rfl dX6_to_53 ?_
            obtain ⟨hk38, h⟩ := h
            obtain ⟨hi39, h⟩ := h
            refine wm_iald C hk38 hi39 dX6_to_54 ?_
            refine wm_aload_n C rfl dX6_to_55 ?_
            refine wm_getR C fqX6_35 hk1 hr33 dX6_to_56 ?_
            refine wm_iload_n C rfl dX6_to_59 ?_
            refine wm_iald C hk34 hi35 dX6_to_60 ?_
            refine wm_if_ne C 69 dX6_to_61 (by decide) (fun q => ?_) (fun q => ?_)
            · replace h := h.1 q
              refine wm_iconst C 1 dX6_to_69 ?_ (by decide)
              refine wm_icmp_ne C 75 dX6_to_70 (by decide) (fun q => ?_) (fun q => ?_)
              · replace h := h.1 q
                refine wm_aload_n C rfl dX6_to_75 ?_
                obtain ⟨b40, hr41, h⟩ := h
                refine wm_getR C fqX6_47 hk1 hr41 dX6_to_76 ?_
                refine wm_bipush C 10 dX6_to_79 ?_ (by decide)
                refine wm_iload_n C rfl dX6_to_81 ?_
                refine wm_imul C dX6_to_82 ?_
                refine wm_bipush C 10 dX6_to_83 ?_ (by decide)
                refine wm_isub C dX6_to_85 ?_
                refine wm_aload_n C rfl dX6_to_86 ?_
                refine wm_getR C fqX6_41 hk1 hr37 dX6_to_87 ?_
                refine wm_iload_n C rfl dX6_to_90 ?_
                refine wm_iald C hk38 hi39 dX6_to_91 ?_
                refine wm_iadd C dX6_to_92 ?_
                refine wm_iload_n C rfl dX6_to_93 ?_
                obtain ⟨hk42, h⟩ := h
                obtain ⟨hi43, h⟩ := h
                refine wm_iast C hk42 hi43 dX6_to_94 ?_
                refine nmI (fun I44 hI44 => ?_)
                replace h := h I44 hI44
                refine wm_aload_n C rfl dX6_to_95 ?_
                refine wm_getR C fqX6_41 hk1 hr37 dX6_to_96 ?_
                refine wm_iload_n C rfl dX6_to_99 ?_
                refine wm_dup2 C rfl rfl dX6_to_100 ?_
                refine wm_iald C hk38 hi39 dX6_to_101 ?_
                refine wm_iconst C 1 dX6_to_102 ?_ (by decide)
                refine wm_iadd C dX6_to_103 ?_
                refine wm_iast C hk38 hi39 dX6_to_104 ?_
                refine nmI (fun I45 hI45 => ?_)
                replace h := h I45 hI45
                refine wm_aload_n C rfl dX6_to_105 ?_
                refine wm_getR C fqX6_41 hk1 hr37 dX6_to_106 ?_
                refine wm_iload_n C rfl dX6_to_109 ?_
                refine wm_iald C hk38 hi39 dX6_to_110 ?_
                exact wm_iret C hr rfl (Nat.le_of_ble_eq_true rfl) (Nat.le_of_ble_eq_true rfl) ⟨rfl, rfl, rfl, rfl, rfl, _, rfl, h⟩ dX6_to_111
              · replace h := h.2 q
                refine wm_iconst C (-1) dX6_to_73 ?_ (by decide)
                exact wm_iret C hr rfl (Nat.le_of_ble_eq_true rfl) (Nat.le_of_ble_eq_true rfl) ⟨rfl, rfl, rfl, rfl, rfl, _, rfl, h⟩ dX6_to_74
            · replace h := h.2 q
              refine wm_bipush C 10 dX6_to_64 ?_ (by decide)
              refine wm_goto C 70 dX6_to_66 ?_ (by decide)
              refine wm_icmp_ne C 75 dX6_to_70 (by decide) (fun q => ?_) (fun q => ?_)
              · replace h := h.1 q
                refine wm_aload_n C rfl dX6_to_75 ?_
                obtain ⟨b46, hr47, h⟩ := h
                refine wm_getR C fqX6_47 hk1 hr47 dX6_to_76 ?_
                refine wm_bipush C 10 dX6_to_79 ?_ (by decide)
                refine wm_iload_n C rfl dX6_to_81 ?_
                refine wm_imul C dX6_to_82 ?_
                refine wm_bipush C 10 dX6_to_83 ?_ (by decide)
                refine wm_isub C dX6_to_85 ?_
                refine wm_aload_n C rfl dX6_to_86 ?_
                refine wm_getR C fqX6_41 hk1 hr37 dX6_to_87 ?_
                refine wm_iload_n C rfl dX6_to_90 ?_
                refine wm_iald C hk38 hi39 dX6_to_91 ?_
                refine wm_iadd C dX6_to_92 ?_
                refine wm_iload_n C rfl dX6_to_93 ?_
                obtain ⟨hk48, h⟩ := h
                obtain ⟨hi49, h⟩ := h
                refine wm_iast C hk48 hi49 dX6_to_94 ?_
                refine nmI (fun I50 hI50 => ?_)
                replace h := h I50 hI50
                refine wm_aload_n C rfl dX6_to_95 ?_
                refine wm_getR C fqX6_41 hk1 hr37 dX6_to_96 ?_
                refine wm_iload_n C rfl dX6_to_99 ?_
                refine wm_dup2 C rfl rfl dX6_to_100 ?_
                refine wm_iald C hk38 hi39 dX6_to_101 ?_
                refine wm_iconst C 1 dX6_to_102 ?_ (by decide)
                refine wm_iadd C dX6_to_103 ?_
                refine wm_iast C hk38 hi39 dX6_to_104 ?_
                refine nmI (fun I51 hI51 => ?_)
                replace h := h I51 hI51
                refine wm_aload_n C rfl dX6_to_105 ?_
                refine wm_getR C fqX6_41 hk1 hr37 dX6_to_106 ?_
                refine wm_iload_n C rfl dX6_to_109 ?_
                refine wm_iald C hk38 hi39 dX6_to_110 ?_
                exact wm_iret C hr rfl (Nat.le_of_ble_eq_true rfl) (Nat.le_of_ble_eq_true rfl) ⟨rfl, rfl, rfl, rfl, rfl, _, rfl, h⟩ dX6_to_111
              · replace h := h.2 q
                refine wm_iconst C (-1) dX6_to_73 ?_ (by decide)
                exact wm_iret C hr rfl (Nat.le_of_ble_eq_true rfl) (Nat.le_of_ble_eq_true rfl) ⟨rfl, rfl, rfl, rfl, rfl, _, rfl, h⟩ dX6_to_74
          · replace h := h.2 q
            refine wm_iload_n C rfl dX6_to_41 ?_
            refine wm_iconst C (-1) dX6_to_42 ?_ (by decide)
            refine wm_icmp_eq C 49 dX6_to_43 (by decide) (fun q => ?_) (fun q => ?_)
            · replace h := h.1 q
              refine wm_aload_n C rfl dX6_to_49 ?_
              obtain ⟨b52, hr53, h⟩ := h
              refine wm_getR C fqX6_41 hk1 hr53 dX6_to_50 ?_
              refine wm_iload_n C rfl dX6_to_53 ?_
              obtain ⟨hk54, h⟩ := h
              obtain ⟨hi55, h⟩ := h
              refine wm_iald C hk54 hi55 dX6_to_54 ?_
              refine wm_aload_n C rfl dX6_to_55 ?_
              refine wm_getR C fqX6_35 hk1 hr33 dX6_to_56 ?_
              refine wm_iload_n C rfl dX6_to_59 ?_
              refine wm_iald C hk34 hi35 dX6_to_60 ?_
              refine wm_if_ne C 69 dX6_to_61 (by decide) (fun q => ?_) (fun q => ?_)
              · replace h := h.1 q
                refine wm_iconst C 1 dX6_to_69 ?_ (by decide)
                refine wm_icmp_ne C 75 dX6_to_70 (by decide) (fun q => ?_) (fun q => ?_)
                · replace h := h.1 q
                  refine wm_aload_n C rfl dX6_to_75 ?_
                  obtain ⟨b56, hr57, h⟩ := h
                  refine wm_getR C fqX6_47 hk1 hr57 dX6_to_76 ?_
                  refine wm_bipush C 10 dX6_to_79 ?_ (by decide)
                  refine wm_iload_n C rfl dX6_to_81 ?_
                  refine wm_imul C dX6_to_82 ?_
                  refine wm_bipush C 10 dX6_to_83 ?_ (by decide)
                  refine wm_isub C dX6_to_85 ?_
                  refine wm_aload_n C rfl dX6_to_86 ?_
                  refine wm_getR C fqX6_41 hk1 hr53 dX6_to_87 ?_
                  refine wm_iload_n C rfl dX6_to_90 ?_
                  refine wm_iald C hk54 hi55 dX6_to_91 ?_
                  refine wm_iadd C dX6_to_92 ?_
                  refine wm_iload_n C rfl dX6_to_93 ?_
                  obtain ⟨hk58, h⟩ := h
                  obtain ⟨hi59, h⟩ := h
                  refine wm_iast C hk58 hi59 dX6_to_94 ?_
                  refine nmI (fun I60 hI60 => ?_)
                  replace h := h I60 hI60
                  refine wm_aload_n C rfl dX6_to_95 ?_
                  refine wm_getR C fqX6_41 hk1 hr53 dX6_to_96 ?_
                  refine wm_iload_n C rfl dX6_to_99 ?_
                  refine wm_dup2 C rfl rfl dX6_to_100 ?_
                  refine wm_iald C hk54 hi55 dX6_to_101 ?_
                  refine wm_iconst C 1 dX6_to_102 ?_ (by decide)
                  refine wm_iadd C dX6_to_103 ?_
                  refine wm_iast C hk54 hi55 dX6_to_104 ?_
                  refine nmI (fun I61 hI61 => ?_)
                  replace h := h I61 hI61
                  refine wm_aload_n C rfl dX6_to_105 ?_
                  refine wm_getR C fqX6_41 hk1 hr53 dX6_to_106 ?_
                  refine wm_iload_n C rfl dX6_to_109 ?_
                  refine wm_iald C hk54 hi55 dX6_to_110 ?_
                  exact wm_iret C hr rfl (Nat.le_of_ble_eq_true rfl) (Nat.le_of_ble_eq_true rfl) ⟨rfl, rfl, rfl, rfl, rfl, _, rfl, h⟩ dX6_to_111
                · replace h := h.2 q
                  refine wm_iconst C (-1) dX6_to_73 ?_ (by decide)
                  exact wm_iret C hr rfl (Nat.le_of_ble_eq_true rfl) (Nat.le_of_ble_eq_true rfl) ⟨rfl, rfl, rfl, rfl, rfl, _, rfl, h⟩ dX6_to_74
              · replace h := h.2 q
                refine wm_bipush C 10 dX6_to_64 ?_ (by decide)
                refine wm_goto C 70 dX6_to_66 ?_ (by decide)
                refine wm_icmp_ne C 75 dX6_to_70 (by decide) (fun q => ?_) (fun q => ?_)
                · replace h := h.1 q
                  refine wm_aload_n C rfl dX6_to_75 ?_
                  obtain ⟨b62, hr63, h⟩ := h
                  refine wm_getR C fqX6_47 hk1 hr63 dX6_to_76 ?_
                  refine wm_bipush C 10 dX6_to_79 ?_ (by decide)
                  refine wm_iload_n C rfl dX6_to_81 ?_
                  refine wm_imul C dX6_to_82 ?_
                  refine wm_bipush C 10 dX6_to_83 ?_ (by decide)
                  refine wm_isub C dX6_to_85 ?_
                  refine wm_aload_n C rfl dX6_to_86 ?_
                  refine wm_getR C fqX6_41 hk1 hr53 dX6_to_87 ?_
                  refine wm_iload_n C rfl dX6_to_90 ?_
                  refine wm_iald C hk54 hi55 dX6_to_91 ?_
                  refine wm_iadd C dX6_to_92 ?_
                  refine wm_iload_n C rfl dX6_to_93 ?_
                  obtain ⟨hk64, h⟩ := h
                  obtain ⟨hi65, h⟩ := h
                  refine wm_iast C hk64 hi65 dX6_to_94 ?_
                  refine nmI (fun I66 hI66 => ?_)
                  replace h := h I66 hI66
                  refine wm_aload_n C rfl dX6_to_95 ?_
                  refine wm_getR C fqX6_41 hk1 hr53 dX6_to_96 ?_
                  refine wm_iload_n C rfl dX6_to_99 ?_
                  refine wm_dup2 C rfl rfl dX6_to_100 ?_
                  refine wm_iald C hk54 hi55 dX6_to_101 ?_
                  refine wm_iconst C 1 dX6_to_102 ?_ (by decide)
                  refine wm_iadd C dX6_to_103 ?_
                  refine wm_iast C hk54 hi55 dX6_to_104 ?_
                  refine nmI (fun I67 hI67 => ?_)
                  replace h := h I67 hI67
                  refine wm_aload_n C rfl dX6_to_105 ?_
                  refine wm_getR C fqX6_41 hk1 hr53 dX6_to_106 ?_
                  refine wm_iload_n C rfl dX6_to_109 ?_
                  refine wm_iald C hk54 hi55 dX6_to_110 ?_
                  exact wm_iret C hr rfl (Nat.le_of_ble_eq_true rfl) (Nat.le_of_ble_eq_true rfl) ⟨rfl, rfl, rfl, rfl, rfl, _, rfl, h⟩ dX6_to_111
                · replace h := h.2 q
                  refine wm_iconst C (-1) dX6_to_73 ?_ (by decide)
                  exact wm_iret C hr rfl (Nat.le_of_ble_eq_true rfl) (Nat.le_of_ble_eq_true rfl) ⟨rfl, rfl, rfl, rfl, rfl, _, rfl, h⟩ dX6_to_74
            · replace h := h.2 q
              refine wm_bipush C (-4) dX6_to_46 ?_ (by decide)
              exact wm_iret C hr rfl (Nat.le_of_ble_eq_true rfl) (Nat.le_of_ble_eq_true rfl) ⟨rfl, rfl, rfl, rfl, rfl, _, rfl, h⟩ dX6_to_48
    · replace h := h.2 q
      refine wm_bipush C (-2) dX6_to_18 ?_ (by decide)
      exact wm_iret C hr rfl (Nat.le_of_ble_eq_true rfl) (Nat.le_of_ble_eq_true rfl) ⟨rfl, rfl, rfl, rfl, rfl, _, rfl, h⟩ dX6_to_20
set_option maxRecDepth 100000 in
set_option maxHeartbeats 4000000 in
theorem sX6_to {l : Launch} {G : Gx} {d : Nat} {K N : TK} {I : TI} {R : TR} {L : TL} {sz : Nat} {φ : Int32 → TI → Prop} {a0 : Nat} {x1 : Int32} {x2 : Int32}
    (h : K a0 = 17 ∧ ∀ I2 : TI, I2 = u2 I a0 0 0 → ((x1 < 1 → φ (-2) I2) ∧ (¬ x1 < 1 → ((x1 ≤ (I2 a0 3) → ∃ φ3 : Int32 → TI → Prop, MtI l G yX6_isWord cX6_isWord 2 (some .boolean) d [.int x2] K N I2 R L sz φ3 ∧ ∀ (r5 : Int32) (I6 : TI), φ3 r5 I6 → ((¬ r5 = 0 → ∃ b12, R a0 14 = some b12 ∧ K b12 = 20 ∧ vp_in x1 (N b12) ∧ ∃ b16, R a0 12 = some b16 ∧ K b16 = 20 ∧ vp_in x1 (N b16) ∧ ((¬ (I6 b16 (Int32.toNatClampNeg x1)) = 0 → ((¬ (I6 b12 (Int32.toNatClampNeg x1)) = 1 → ∃ b20, R a0 16 = some b20 ∧ K b20 = 20 ∧ vp_in (((10 * x1) - 10) + (I6 b12 (Int32.toNatClampNeg x1))) (N b20) ∧ ∀ I24 : TI, I24 = u2 I6 b20 (Int32.toNatClampNeg (((10 * x1) - 10) + (I6 b12 (Int32.toNatClampNeg x1)))) x2 → ∀ I25 : TI, I25 = u2 I24 b12 (Int32.toNatClampNeg x1) ((I24 b12 (Int32.toNatClampNeg x1)) + 1) → φ (I25 b12 (Int32.toNatClampNeg x1)) I25) ∧ ((I6 b12 (Int32.toNatClampNeg x1)) = 1 → φ (-1) I6))) ∧ ((I6 b16 (Int32.toNatClampNeg x1)) = 0 → ((¬ (I6 b12 (Int32.toNatClampNeg x1)) = 10 → ∃ b26, R a0 16 = some b26 ∧ K b26 = 20 ∧ vp_in (((10 * x1) - 10) + (I6 b12 (Int32.toNatClampNeg x1))) (N b26) ∧ ∀ I30 : TI, I30 = u2 I6 b26 (Int32.toNatClampNeg (((10 * x1) - 10) + (I6 b12 (Int32.toNatClampNeg x1)))) x2 → ∀ I31 : TI, I31 = u2 I30 b12 (Int32.toNatClampNeg x1) ((I30 b12 (Int32.toNatClampNeg x1)) + 1) → φ (I31 b12 (Int32.toNatClampNeg x1)) I31) ∧ ((I6 b12 (Int32.toNatClampNeg x1)) = 10 → φ (-1) I6))))) ∧ (r5 = 0 → ∃ b32, R a0 12 = some b32 ∧ K b32 = 20 ∧ vp_in x1 (N b32) ∧ ((¬ (I6 b32 (Int32.toNatClampNeg x1)) = 0 → φ (-4) I6) ∧ ((I6 b32 (Int32.toNatClampNeg x1)) = 0 → ((x2 = 0 → ∃ b36, R a0 14 = some b36 ∧ K b36 = 20 ∧ vp_in x1 (N b36) ∧ ((¬ (I6 b32 (Int32.toNatClampNeg x1)) = 0 → ((¬ (I6 b36 (Int32.toNatClampNeg x1)) = 1 → ∃ b40, R a0 16 = some b40 ∧ K b40 = 20 ∧ vp_in (((10 * x1) - 10) + (I6 b36 (Int32.toNatClampNeg x1))) (N b40) ∧ ∀ I44 : TI, I44 = u2 I6 b40 (Int32.toNatClampNeg (((10 * x1) - 10) + (I6 b36 (Int32.toNatClampNeg x1)))) x2 → ∀ I45 : TI, I45 = u2 I44 b36 (Int32.toNatClampNeg x1) ((I44 b36 (Int32.toNatClampNeg x1)) + 1) → φ (I45 b36 (Int32.toNatClampNeg x1)) I45) ∧ ((I6 b36 (Int32.toNatClampNeg x1)) = 1 → φ (-1) I6))) ∧ ((I6 b32 (Int32.toNatClampNeg x1)) = 0 → ((¬ (I6 b36 (Int32.toNatClampNeg x1)) = 10 → ∃ b46, R a0 16 = some b46 ∧ K b46 = 20 ∧ vp_in (((10 * x1) - 10) + (I6 b36 (Int32.toNatClampNeg x1))) (N b46) ∧ ∀ I50 : TI, I50 = u2 I6 b46 (Int32.toNatClampNeg (((10 * x1) - 10) + (I6 b36 (Int32.toNatClampNeg x1)))) x2 → ∀ I51 : TI, I51 = u2 I50 b36 (Int32.toNatClampNeg x1) ((I50 b36 (Int32.toNatClampNeg x1)) + 1) → φ (I51 b36 (Int32.toNatClampNeg x1)) I51) ∧ ((I6 b36 (Int32.toNatClampNeg x1)) = 10 → φ (-1) I6))))) ∧ (¬ x2 = 0 → ((x2 = (-1) → ∃ b52, R a0 14 = some b52 ∧ K b52 = 20 ∧ vp_in x1 (N b52) ∧ ((¬ (I6 b32 (Int32.toNatClampNeg x1)) = 0 → ((¬ (I6 b52 (Int32.toNatClampNeg x1)) = 1 → ∃ b56, R a0 16 = some b56 ∧ K b56 = 20 ∧ vp_in (((10 * x1) - 10) + (I6 b52 (Int32.toNatClampNeg x1))) (N b56) ∧ ∀ I60 : TI, I60 = u2 I6 b56 (Int32.toNatClampNeg (((10 * x1) - 10) + (I6 b52 (Int32.toNatClampNeg x1)))) x2 → ∀ I61 : TI, I61 = u2 I60 b52 (Int32.toNatClampNeg x1) ((I60 b52 (Int32.toNatClampNeg x1)) + 1) → φ (I61 b52 (Int32.toNatClampNeg x1)) I61) ∧ ((I6 b52 (Int32.toNatClampNeg x1)) = 1 → φ (-1) I6))) ∧ ((I6 b32 (Int32.toNatClampNeg x1)) = 0 → ((¬ (I6 b52 (Int32.toNatClampNeg x1)) = 10 → ∃ b62, R a0 16 = some b62 ∧ K b62 = 20 ∧ vp_in (((10 * x1) - 10) + (I6 b52 (Int32.toNatClampNeg x1))) (N b62) ∧ ∀ I66 : TI, I66 = u2 I6 b62 (Int32.toNatClampNeg (((10 * x1) - 10) + (I6 b52 (Int32.toNatClampNeg x1)))) x2 → ∀ I67 : TI, I67 = u2 I66 b52 (Int32.toNatClampNeg x1) ((I66 b52 (Int32.toNatClampNeg x1)) + 1) → φ (I67 b52 (Int32.toNatClampNeg x1)) I67) ∧ ((I6 b52 (Int32.toNatClampNeg x1)) = 10 → φ (-1) I6))))) ∧ (¬ x2 = (-1) → φ (-4) I6))))))))) ∧ (¬ x1 ≤ (I2 a0 3) → φ (-2) I2))))) :
    MtI l G yX6_to cX6_to 3 (some .int) (d + 1) [.ref a0, .int x1, .int x2] K N I R L sz φ :=
  MetM.of (own := RX6) (by decide) rfl (catR (catI (catI cat0))) (Nat.le_of_ble_eq_true rfl) (fun p e s m args below meth c C hr hnm => vX6_to_0 C hr h)
set_option maxRecDepth 100000 in
set_option maxHeartbeats 4000000 in
theorem vX6_put_0 {p : Program} {l : Launch} {e : Env} {s : State} {m : MethodId} {args : Array Value} {below : List Frame} {meth : Method} {c : Code} {G : Gx} {d : Nat} {K N : TK} {I : TI} {R : TR} {L : TL} {sz : Nat} {φ : Int32 → TI → Prop} (C : Cx p s m args meth c (AM K sz) G RX6 cX6_put 9) (hr : meth.sig.returnType = (some .boolean)) {a0 : Nat} {x1 : Int32} {x2 : Int32} {x3 : Int32} {x4 : Int32} {x5 : Int32} {x6 : Int32} {x7 : Int32}
    (h : K a0 = 17 ∧ ∃ b2, R a0 23 = some b2 ∧ K b2 = 20 ∧ vp_in x1 (N b2) ∧ ((¬ (I b2 (Int32.toNatClampNeg x1)) = 300 → ∃ b6, R a0 17 = some b6 ∧ K b6 = 20 ∧ vp_in ((302 * x1) + (I b2 (Int32.toNatClampNeg x1))) (N b6) ∧ ∀ I10 : TI, I10 = u2 I b6 (Int32.toNatClampNeg ((302 * x1) + (I b2 (Int32.toNatClampNeg x1)))) x2 → ∃ b11, R a0 18 = some b11 ∧ K b11 = 20 ∧ vp_in ((302 * x1) + (I b2 (Int32.toNatClampNeg x1))) (N b11) ∧ ∀ I15 : TI, I15 = u2 I10 b11 (Int32.toNatClampNeg ((302 * x1) + (I b2 (Int32.toNatClampNeg x1)))) x3 → ∃ b16, R a0 19 = some b16 ∧ K b16 = 20 ∧ vp_in ((302 * x1) + (I b2 (Int32.toNatClampNeg x1))) (N b16) ∧ ∀ I20 : TI, I20 = u2 I15 b16 (Int32.toNatClampNeg ((302 * x1) + (I b2 (Int32.toNatClampNeg x1)))) x4 → ∃ b21, R a0 20 = some b21 ∧ K b21 = 20 ∧ vp_in ((302 * x1) + (I b2 (Int32.toNatClampNeg x1))) (N b21) ∧ ∀ I25 : TI, I25 = u2 I20 b21 (Int32.toNatClampNeg ((302 * x1) + (I b2 (Int32.toNatClampNeg x1)))) x5 → ∃ b26, R a0 21 = some b26 ∧ K b26 = 20 ∧ vp_in ((302 * x1) + (I b2 (Int32.toNatClampNeg x1))) (N b26) ∧ ∀ I30 : TI, I30 = u2 I25 b26 (Int32.toNatClampNeg ((302 * x1) + (I b2 (Int32.toNatClampNeg x1)))) x6 → ∃ b31, R a0 22 = some b31 ∧ K b31 = 20 ∧ vp_in ((302 * x1) + (I b2 (Int32.toNatClampNeg x1))) (N b31) ∧ ∀ I35 : TI, I35 = u2 I30 b31 (Int32.toNatClampNeg ((302 * x1) + (I b2 (Int32.toNatClampNeg x1)))) x7 → ∀ I36 : TI, I36 = u2 I35 b2 (Int32.toNatClampNeg x1) ((I35 b2 (Int32.toNatClampNeg x1)) + 1) → φ 1 I36) ∧ ((I b2 (Int32.toNatClampNeg x1)) = 300 → ∀ I37 : TI, I37 = u2 I a0 28 (-3) → φ 0 I37))) :
    WI p l e s m args below meth c G d φ K N R L sz 9 0 [(0, .ref a0), (1, .int x1), (2, .int x2), (3, .int x3), (4, .int x4), (5, .int x5), (6, .int x6), (7, .int x7)] I := by
  refine wm_aload_n C rfl dX6_put_0 ?_
  obtain ⟨hk1, h⟩ := h
  obtain ⟨b2, hr3, h⟩ := h
  refine wm_getR C fqX6_68 hk1 hr3 dX6_put_1 ?_
  refine wm_iload_n C rfl dX6_put_4 ?_
  obtain ⟨hk4, h⟩ := h
  obtain ⟨hi5, h⟩ := h
  refine wm_iald C hk4 hi5 dX6_put_5 ?_
  refine wm_sipush C 300 dX6_put_6 ?_ (by decide)
  refine wm_icmp_ne C 20 dX6_put_9 (by decide) (fun q => ?_) (fun q => ?_)
  · replace h := h.1 q
    refine wm_sipush C 302 dX6_put_20 ?_ (by decide)
    refine wm_iload_n C rfl dX6_put_23 ?_
    refine wm_imul C dX6_put_24 ?_
    refine wm_aload_n C rfl dX6_put_25 ?_
    refine wm_getR C fqX6_68 hk1 hr3 dX6_put_26 ?_
    refine wm_iload_n C rfl dX6_put_29 ?_
    refine wm_iald C hk4 hi5 dX6_put_30 ?_
    refine wm_iadd C dX6_put_31 ?_
    refine wm_istore C (by decide) dX6_put_32 ?_
    refine wm_aload_n C rfl dX6_put_34 ?_
    obtain ⟨b6, hr7, h⟩ := h
    refine wm_getR C fqX6_50 hk1 hr7 dX6_put_35 ?_
    refine wm_iload C rfl dX6_put_38 ?_
    refine wm_iload_n C rfl dX6_put_40 ?_
    obtain ⟨hk8, h⟩ := h
    obtain ⟨hi9, h⟩ := h
    refine wm_iast C hk8 hi9 dX6_put_41 ?_
    refine nmI (fun I10 hI10 => ?_)
    replace h := h I10 hI10
    refine wm_aload_n C rfl dX6_put_42 ?_
    obtain ⟨b11, hr12, h⟩ := h
    refine wm_getR C fqX6_53 hk1 hr12 dX6_put_43 ?_
    refine wm_iload C rfl dX6_put_46 ?_
    refine wm_iload_n C rfl dX6_put_48 ?_
    obtain ⟨hk13, h⟩ := h
    obtain ⟨hi14, h⟩ := h
    refine wm_iast C hk13 hi14 dX6_put_49 ?_
    refine nmI (fun I15 hI15 => ?_)
    replace h := h I15 hI15
    refine wm_aload_n C rfl dX6_put_50 ?_
    obtain ⟨b16, hr17, h⟩ := h
    refine wm_getR C fqX6_56 hk1 hr17 dX6_put_51 ?_
    refine wm_iload C rfl dX6_put_54 ?_
    refine wm_iload C rfl dX6_put_56 ?_
    obtain ⟨hk18, h⟩ := h
    obtain ⟨hi19, h⟩ := h
    refine wm_iast C hk18 hi19 dX6_put_58 ?_
    refine nmI (fun I20 hI20 => ?_)
    replace h := h I20 hI20
    refine wm_aload_n C rfl dX6_put_59 ?_
    obtain ⟨b21, hr22, h⟩ := h
    refine wm_getR C fqX6_59 hk1 hr22 dX6_put_60 ?_
    refine wm_iload C rfl dX6_put_63 ?_
    refine wm_iload C rfl dX6_put_65 ?_
    obtain ⟨hk23, h⟩ := h
    obtain ⟨hi24, h⟩ := h
    refine wm_iast C hk23 hi24 dX6_put_67 ?_
    refine nmI (fun I25 hI25 => ?_)
    replace h := h I25 hI25
    refine wm_aload_n C rfl dX6_put_68 ?_
    obtain ⟨b26, hr27, h⟩ := h
    refine wm_getR C fqX6_62 hk1 hr27 dX6_put_69 ?_
    refine wm_iload C rfl dX6_put_72 ?_
    refine wm_iload C rfl dX6_put_74 ?_
    obtain ⟨hk28, h⟩ := h
    obtain ⟨hi29, h⟩ := h
    refine wm_iast C hk28 hi29 dX6_put_76 ?_
    refine nmI (fun I30 hI30 => ?_)
    replace h := h I30 hI30
    refine wm_aload_n C rfl dX6_put_77 ?_
    obtain ⟨b31, hr32, h⟩ := h
    refine wm_getR C fqX6_65 hk1 hr32 dX6_put_78 ?_
    refine wm_iload C rfl dX6_put_81 ?_
    refine wm_iload C rfl dX6_put_83 ?_
    obtain ⟨hk33, h⟩ := h
    obtain ⟨hi34, h⟩ := h
    refine wm_iast C hk33 hi34 dX6_put_85 ?_
    refine nmI (fun I35 hI35 => ?_)
    replace h := h I35 hI35
    refine wm_aload_n C rfl dX6_put_86 ?_
    refine wm_getR C fqX6_68 hk1 hr3 dX6_put_87 ?_
    refine wm_iload_n C rfl dX6_put_90 ?_
    refine wm_dup2 C rfl rfl dX6_put_91 ?_
    refine wm_iald C hk4 hi5 dX6_put_92 ?_
    refine wm_iconst C 1 dX6_put_93 ?_ (by decide)
    refine wm_iadd C dX6_put_94 ?_
    refine wm_iast C hk4 hi5 dX6_put_95 ?_
    refine nmI (fun I36 hI36 => ?_)
    replace h := h I36 hI36
    refine wm_iconst C 1 dX6_put_96 ?_ (by decide)
    exact wm_iret C hr rfl (Nat.le_of_ble_eq_true rfl) (Nat.le_of_ble_eq_true rfl) ⟨rfl, rfl, rfl, rfl, rfl, _, rfl, h⟩ dX6_put_97
  · replace h := h.2 q
    refine wm_aload_n C rfl dX6_put_12 ?_
    refine wm_bipush C (-3) dX6_put_13 ?_ (by decide)
    refine wm_putI C fqX6_112 hk1 dX6_put_15 ?_
    refine nmI (fun I37 hI37 => ?_)
    replace h := h I37 hI37
    refine wm_iconst C 0 dX6_put_18 ?_ (by decide)
    exact wm_iret C hr rfl (Nat.le_of_ble_eq_true rfl) (Nat.le_of_ble_eq_true rfl) ⟨rfl, rfl, rfl, rfl, rfl, _, rfl, h⟩ dX6_put_19
set_option maxRecDepth 100000 in
set_option maxHeartbeats 4000000 in
theorem sX6_put {l : Launch} {G : Gx} {d : Nat} {K N : TK} {I : TI} {R : TR} {L : TL} {sz : Nat} {φ : Int32 → TI → Prop} {a0 : Nat} {x1 : Int32} {x2 : Int32} {x3 : Int32} {x4 : Int32} {x5 : Int32} {x6 : Int32} {x7 : Int32}
    (h : K a0 = 17 ∧ ∃ b2, R a0 23 = some b2 ∧ K b2 = 20 ∧ vp_in x1 (N b2) ∧ ((¬ (I b2 (Int32.toNatClampNeg x1)) = 300 → ∃ b6, R a0 17 = some b6 ∧ K b6 = 20 ∧ vp_in ((302 * x1) + (I b2 (Int32.toNatClampNeg x1))) (N b6) ∧ ∀ I10 : TI, I10 = u2 I b6 (Int32.toNatClampNeg ((302 * x1) + (I b2 (Int32.toNatClampNeg x1)))) x2 → ∃ b11, R a0 18 = some b11 ∧ K b11 = 20 ∧ vp_in ((302 * x1) + (I b2 (Int32.toNatClampNeg x1))) (N b11) ∧ ∀ I15 : TI, I15 = u2 I10 b11 (Int32.toNatClampNeg ((302 * x1) + (I b2 (Int32.toNatClampNeg x1)))) x3 → ∃ b16, R a0 19 = some b16 ∧ K b16 = 20 ∧ vp_in ((302 * x1) + (I b2 (Int32.toNatClampNeg x1))) (N b16) ∧ ∀ I20 : TI, I20 = u2 I15 b16 (Int32.toNatClampNeg ((302 * x1) + (I b2 (Int32.toNatClampNeg x1)))) x4 → ∃ b21, R a0 20 = some b21 ∧ K b21 = 20 ∧ vp_in ((302 * x1) + (I b2 (Int32.toNatClampNeg x1))) (N b21) ∧ ∀ I25 : TI, I25 = u2 I20 b21 (Int32.toNatClampNeg ((302 * x1) + (I b2 (Int32.toNatClampNeg x1)))) x5 → ∃ b26, R a0 21 = some b26 ∧ K b26 = 20 ∧ vp_in ((302 * x1) + (I b2 (Int32.toNatClampNeg x1))) (N b26) ∧ ∀ I30 : TI, I30 = u2 I25 b26 (Int32.toNatClampNeg ((302 * x1) + (I b2 (Int32.toNatClampNeg x1)))) x6 → ∃ b31, R a0 22 = some b31 ∧ K b31 = 20 ∧ vp_in ((302 * x1) + (I b2 (Int32.toNatClampNeg x1))) (N b31) ∧ ∀ I35 : TI, I35 = u2 I30 b31 (Int32.toNatClampNeg ((302 * x1) + (I b2 (Int32.toNatClampNeg x1)))) x7 → ∀ I36 : TI, I36 = u2 I35 b2 (Int32.toNatClampNeg x1) ((I35 b2 (Int32.toNatClampNeg x1)) + 1) → φ 1 I36) ∧ ((I b2 (Int32.toNatClampNeg x1)) = 300 → ∀ I37 : TI, I37 = u2 I a0 28 (-3) → φ 0 I37))) :
    MtI l G yX6_put cX6_put 9 (some .boolean) d [.ref a0, .int x1, .int x2, .int x3, .int x4, .int x5, .int x6, .int x7] K N I R L sz φ :=
  MetM.of (own := RX6) (by decide) rfl (catR (catI (catI (catI (catI (catI (catI (catI cat0)))))))) (Nat.le_of_ble_eq_true rfl) (fun p e s m args below meth c C hr hnm => vX6_put_0 C hr h)
