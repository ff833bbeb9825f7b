section
-- ===== PART A: goes FIRST, ahead of the names: the tables' words, and 'selects' of the private methods out of them =====
/-- a private method of a class that the tables say can be made, by its rows of tables_1 -/
def lw_okq (q : MethodName × Nat) : Prop := (q.1.cls ≠ "java/lang/invoke/MethodHandle" ∧ q.1.cls ≠ "java/lang/invoke/VarHandle") ∧ Cond.instantiable q.1.cls q.2 ∈ tables_1 ∧ Cond.privateMethod q.1 ∈ tables_1 ∧ Cond.instanceMethod q.1 ∈ tables_1
theorem lw_p0 : lw_okq (⟨"CopyReplace", "textNumbered", "(I)LCopyReplace$Text;"⟩, 13) := ⟨⟨by decide +kernel, by decide +kernel⟩, List.mem_of_getElem? (i := 14) (by decide +kernel), List.mem_of_getElem? (i := 142) (by decide +kernel), List.mem_of_getElem? (i := 143) (by decide +kernel)⟩
theorem lw_p1 : lw_okq (⟨"CopyReplace", "addStatement", "(LCopyReplace$Text;ZIZ)I"⟩, 13) := ⟨⟨by decide +kernel, by decide +kernel⟩, List.mem_of_getElem? (i := 14) (by decide +kernel), List.mem_of_getElem? (i := 160) (by decide +kernel), List.mem_of_getElem? (i := 161) (by decide +kernel)⟩
theorem lw_p2 : lw_okq (⟨"CopyReplace", "statementNumbered", "(I)LCopyReplace$Statement;"⟩, 13) := ⟨⟨by decide +kernel, by decide +kernel⟩, List.mem_of_getElem? (i := 14) (by decide +kernel), List.mem_of_getElem? (i := 206) (by decide +kernel), List.mem_of_getElem? (i := 207) (by decide +kernel)⟩
theorem lw_p3 : lw_okq (⟨"CopyReplace", "phraseNumbered", "(I)LCopyReplace$Phrase;"⟩, 13) := ⟨⟨by decide +kernel, by decide +kernel⟩, List.mem_of_getElem? (i := 14) (by decide +kernel), List.mem_of_getElem? (i := 262) (by decide +kernel), List.mem_of_getElem? (i := 263) (by decide +kernel)⟩
theorem lw_p4 : lw_okq (⟨"CopyReplace", "makeRow", "(LCopyReplace$Text;IZ)I"⟩, 13) := ⟨⟨by decide +kernel, by decide +kernel⟩, List.mem_of_getElem? (i := 14) (by decide +kernel), List.mem_of_getElem? (i := 279) (by decide +kernel), List.mem_of_getElem? (i := 280) (by decide +kernel)⟩
theorem lw_p5 : lw_okq (⟨"CopyReplace", "statementOf", "(I)LCopyReplace$Statement;"⟩, 13) := ⟨⟨by decide +kernel, by decide +kernel⟩, List.mem_of_getElem? (i := 14) (by decide +kernel), List.mem_of_getElem? (i := 287) (by decide +kernel), List.mem_of_getElem? (i := 288) (by decide +kernel)⟩
theorem lw_p6 : lw_okq (⟨"CopyReplace", "addCopy", "(LCopyReplace$Row;LCopyReplace$Statement;IZ)I"⟩, 13) := ⟨⟨by decide +kernel, by decide +kernel⟩, List.mem_of_getElem? (i := 14) (by decide +kernel), List.mem_of_getElem? (i := 291) (by decide +kernel), List.mem_of_getElem? (i := 292) (by decide +kernel)⟩
theorem lw_p7 : lw_okq (⟨"CopyReplace", "textNamed", "(I)LCopyReplace$Text;"⟩, 13) := ⟨⟨by decide +kernel, by decide +kernel⟩, List.mem_of_getElem? (i := 14) (by decide +kernel), List.mem_of_getElem? (i := 295) (by decide +kernel), List.mem_of_getElem? (i := 296) (by decide +kernel)⟩
theorem lw_p8 : lw_okq (⟨"CopyReplace", "closesRing", "(LCopyReplace$Text;I)Z"⟩, 13) := ⟨⟨by decide +kernel, by decide +kernel⟩, List.mem_of_getElem? (i := 14) (by decide +kernel), List.mem_of_getElem? (i := 299) (by decide +kernel), List.mem_of_getElem? (i := 300) (by decide +kernel)⟩
theorem lw_p9 : lw_okq (⟨"CopyReplace", "keepRingName", "(LCopyReplace$Text;)V"⟩, 13) := ⟨⟨by decide +kernel, by decide +kernel⟩, List.mem_of_getElem? (i := 14) (by decide +kernel), List.mem_of_getElem? (i := 303) (by decide +kernel), List.mem_of_getElem? (i := 304) (by decide +kernel)⟩
theorem lw_p10 : lw_okq (⟨"CopyReplace", "matchPart", "(LCopyReplace$Row;IILCopyReplace$Statement;LCopyReplace$Row;)I"⟩, 13) := ⟨⟨by decide +kernel, by decide +kernel⟩, List.mem_of_getElem? (i := 14) (by decide +kernel), List.mem_of_getElem? (i := 307) (by decide +kernel), List.mem_of_getElem? (i := 308) (by decide +kernel)⟩
theorem lw_p11 : lw_okq (⟨"CopyReplace", "matchAt", "(LCopyReplace$Row;IILCopyReplace$Statement;LCopyReplace$Row;)I"⟩, 13) := ⟨⟨by decide +kernel, by decide +kernel⟩, List.mem_of_getElem? (i := 14) (by decide +kernel), List.mem_of_getElem? (i := 311) (by decide +kernel), List.mem_of_getElem? (i := 312) (by decide +kernel)⟩
theorem lw_p12 : lw_okq (⟨"CopyReplace", "matchByReplaces", "(LCopyReplace$Row;)I"⟩, 13) := ⟨⟨by decide +kernel, by decide +kernel⟩, List.mem_of_getElem? (i := 14) (by decide +kernel), List.mem_of_getElem? (i := 374) (by decide +kernel), List.mem_of_getElem? (i := 375) (by decide +kernel)⟩
theorem lw_p13 : lw_okq (⟨"java/lang/Throwable", "fillInStackTrace", "(I)Ljava/lang/Throwable;"⟩, 6) := ⟨⟨by decide +kernel, by decide +kernel⟩, List.mem_of_getElem? (i := 437) (by decide +kernel), List.mem_of_getElem? (i := 435) (by decide +kernel), List.mem_of_getElem? (i := 436) (by decide +kernel)⟩
theorem lw_p14 : lw_okq (⟨"CopyReplaceModel", "isText", "(I)Z"⟩, 34) := ⟨⟨by decide +kernel, by decide +kernel⟩, List.mem_of_getElem? (i := 465) (by decide +kernel), List.mem_of_getElem? (i := 586) (by decide +kernel), List.mem_of_getElem? (i := 587) (by decide +kernel)⟩
theorem lw_p15 : lw_okq (⟨"CopyReplaceModel", "add", "(II)I"⟩, 34) := ⟨⟨by decide +kernel, by decide +kernel⟩, List.mem_of_getElem? (i := 465) (by decide +kernel), List.mem_of_getElem? (i := 594) (by decide +kernel), List.mem_of_getElem? (i := 595) (by decide +kernel)⟩
def lw_privs_1 : List (MethodName × Nat) := [(⟨"CopyReplace", "textNumbered", "(I)LCopyReplace$Text;"⟩, 13), (⟨"CopyReplace", "addStatement", "(LCopyReplace$Text;ZIZ)I"⟩, 13), (⟨"CopyReplace", "statementNumbered", "(I)LCopyReplace$Statement;"⟩, 13), (⟨"CopyReplace", "phraseNumbered", "(I)LCopyReplace$Phrase;"⟩, 13), (⟨"CopyReplace", "makeRow", "(LCopyReplace$Text;IZ)I"⟩, 13), (⟨"CopyReplace", "statementOf", "(I)LCopyReplace$Statement;"⟩, 13), (⟨"CopyReplace", "addCopy", "(LCopyReplace$Row;LCopyReplace$Statement;IZ)I"⟩, 13), (⟨"CopyReplace", "textNamed", "(I)LCopyReplace$Text;"⟩, 13), (⟨"CopyReplace", "closesRing", "(LCopyReplace$Text;I)Z"⟩, 13), (⟨"CopyReplace", "keepRingName", "(LCopyReplace$Text;)V"⟩, 13), (⟨"CopyReplace", "matchPart", "(LCopyReplace$Row;IILCopyReplace$Statement;LCopyReplace$Row;)I"⟩, 13), (⟨"CopyReplace", "matchAt", "(LCopyReplace$Row;IILCopyReplace$Statement;LCopyReplace$Row;)I"⟩, 13), (⟨"CopyReplace", "matchByReplaces", "(LCopyReplace$Row;)I"⟩, 13), (⟨"java/lang/Throwable", "fillInStackTrace", "(I)Ljava/lang/Throwable;"⟩, 6), (⟨"CopyReplaceModel", "isText", "(I)Z"⟩, 34), (⟨"CopyReplaceModel", "add", "(II)I"⟩, 34)]
theorem lw_r1 : ∀ q ∈ lw_privs_1, lw_okq q := List.forall_mem_cons.mpr ⟨lw_p0, List.forall_mem_cons.mpr ⟨lw_p1, List.forall_mem_cons.mpr ⟨lw_p2, List.forall_mem_cons.mpr ⟨lw_p3, List.forall_mem_cons.mpr ⟨lw_p4, List.forall_mem_cons.mpr ⟨lw_p5, List.forall_mem_cons.mpr ⟨lw_p6, List.forall_mem_cons.mpr ⟨lw_p7, List.forall_mem_cons.mpr ⟨lw_p8, List.forall_mem_cons.mpr ⟨lw_p9, List.forall_mem_cons.mpr ⟨lw_p10, List.forall_mem_cons.mpr ⟨lw_p11, List.forall_mem_cons.mpr ⟨lw_p12, List.forall_mem_cons.mpr ⟨lw_p13, List.forall_mem_cons.mpr ⟨lw_p14, List.forall_mem_cons.mpr ⟨lw_p15, fun _ h => absurd h List.not_mem_nil⟩⟩⟩⟩⟩⟩⟩⟩⟩⟩⟩⟩⟩⟩⟩⟩
theorem lw_p16 : lw_okq (⟨"CopyReplaceModel", "statement", "(IZIZ)I"⟩, 34) := ⟨⟨by decide +kernel, by decide +kernel⟩, List.mem_of_getElem? (i := 465) (by decide +kernel), List.mem_of_getElem? (i := 602) (by decide +kernel), List.mem_of_getElem? (i := 603) (by decide +kernel)⟩
theorem lw_p17 : lw_okq (⟨"CopyReplaceModel", "begin", "(II)V"⟩, 34) := ⟨⟨by decide +kernel, by decide +kernel⟩, List.mem_of_getElem? (i := 465) (by decide +kernel), List.mem_of_getElem? (i := 630) (by decide +kernel), List.mem_of_getElem? (i := 631) (by decide +kernel)⟩
theorem lw_p18 : lw_okq (⟨"CopyReplaceModel", "end", "()V"⟩, 34) := ⟨⟨by decide +kernel, by decide +kernel⟩, List.mem_of_getElem? (i := 465) (by decide +kernel), List.mem_of_getElem? (i := 634) (by decide +kernel), List.mem_of_getElem? (i := 635) (by decide +kernel)⟩
theorem lw_p19 : lw_okq (⟨"CopyReplaceModel", "match", "(II)V"⟩, 34) := ⟨⟨by decide +kernel, by decide +kernel⟩, List.mem_of_getElem? (i := 465) (by decide +kernel), List.mem_of_getElem? (i := 638) (by decide +kernel), List.mem_of_getElem? (i := 639) (by decide +kernel)⟩
theorem lw_p20 : lw_okq (⟨"CopyReplaceModel", "step", "(IIII)I"⟩, 34) := ⟨⟨by decide +kernel, by decide +kernel⟩, List.mem_of_getElem? (i := 465) (by decide +kernel), List.mem_of_getElem? (i := 642) (by decide +kernel), List.mem_of_getElem? (i := 643) (by decide +kernel)⟩
theorem lw_p21 : lw_okq (⟨"CopyReplaceModel", "behind", "(III)I"⟩, 34) := ⟨⟨by decide +kernel, by decide +kernel⟩, List.mem_of_getElem? (i := 465) (by decide +kernel), List.mem_of_getElem? (i := 646) (by decide +kernel), List.mem_of_getElem? (i := 647) (by decide +kernel)⟩
theorem lw_p22 : lw_okq (⟨"CopyReplaceModel", "put", "(IIIIIII)Z"⟩, 34) := ⟨⟨by decide +kernel, by decide +kernel⟩, List.mem_of_getElem? (i := 465) (by decide +kernel), List.mem_of_getElem? (i := 650) (by decide +kernel), List.mem_of_getElem? (i := 651) (by decide +kernel)⟩
theorem lw_p23 : lw_okq (⟨"CopyReplaceModel", "hasPart", "(II)Z"⟩, 34) := ⟨⟨by decide +kernel, by decide +kernel⟩, List.mem_of_getElem? (i := 465) (by decide +kernel), List.mem_of_getElem? (i := 654) (by decide +kernel), List.mem_of_getElem? (i := 655) (by decide +kernel)⟩
theorem lw_p24 : lw_okq (⟨"CopyReplaceModel", "changed", "(II)I"⟩, 34) := ⟨⟨by decide +kernel, by decide +kernel⟩, List.mem_of_getElem? (i := 465) (by decide +kernel), List.mem_of_getElem? (i := 664) (by decide +kernel), List.mem_of_getElem? (i := 665) (by decide +kernel)⟩
theorem lw_p25 : lw_okq (⟨"CopyReplaceModel", "again", "(II)Z"⟩, 34) := ⟨⟨by decide +kernel, by decide +kernel⟩, List.mem_of_getElem? (i := 465) (by decide +kernel), List.mem_of_getElem? (i := 668) (by decide +kernel), List.mem_of_getElem? (i := 669) (by decide +kernel)⟩
theorem lw_p26 : lw_okq (⟨"CopyReplaceModel", "copied", "(I)V"⟩, 34) := ⟨⟨by decide +kernel, by decide +kernel⟩, List.mem_of_getElem? (i := 465) (by decide +kernel), List.mem_of_getElem? (i := 672) (by decide +kernel), List.mem_of_getElem? (i := 673) (by decide +kernel)⟩
theorem lw_p27 : lw_okq (⟨"CopyReplaceModel", "textNamed", "(I)I"⟩, 34) := ⟨⟨by decide +kernel, by decide +kernel⟩, List.mem_of_getElem? (i := 465) (by decide +kernel), List.mem_of_getElem? (i := 676) (by decide +kernel), List.mem_of_getElem? (i := 677) (by decide +kernel)⟩
def lw_privs_2 : List (MethodName × Nat) := [(⟨"CopyReplaceModel", "statement", "(IZIZ)I"⟩, 34), (⟨"CopyReplaceModel", "begin", "(II)V"⟩, 34), (⟨"CopyReplaceModel", "end", "()V"⟩, 34), (⟨"CopyReplaceModel", "match", "(II)V"⟩, 34), (⟨"CopyReplaceModel", "step", "(IIII)I"⟩, 34), (⟨"CopyReplaceModel", "behind", "(III)I"⟩, 34), (⟨"CopyReplaceModel", "put", "(IIIIIII)Z"⟩, 34), (⟨"CopyReplaceModel", "hasPart", "(II)Z"⟩, 34), (⟨"CopyReplaceModel", "changed", "(II)I"⟩, 34), (⟨"CopyReplaceModel", "again", "(II)Z"⟩, 34), (⟨"CopyReplaceModel", "copied", "(I)V"⟩, 34), (⟨"CopyReplaceModel", "textNamed", "(I)I"⟩, 34)]
theorem lw_r2 : ∀ q ∈ lw_privs_2, lw_okq q := List.forall_mem_cons.mpr ⟨lw_p16, List.forall_mem_cons.mpr ⟨lw_p17, List.forall_mem_cons.mpr ⟨lw_p18, List.forall_mem_cons.mpr ⟨lw_p19, List.forall_mem_cons.mpr ⟨lw_p20, List.forall_mem_cons.mpr ⟨lw_p21, List.forall_mem_cons.mpr ⟨lw_p22, List.forall_mem_cons.mpr ⟨lw_p23, List.forall_mem_cons.mpr ⟨lw_p24, List.forall_mem_cons.mpr ⟨lw_p25, List.forall_mem_cons.mpr ⟨lw_p26, List.forall_mem_cons.mpr ⟨lw_p27, fun _ h => absurd h List.not_mem_nil⟩⟩⟩⟩⟩⟩⟩⟩⟩⟩⟩⟩
def lw_privs : List (MethodName × Nat) := lw_privs_1 ++ (lw_privs_2)
def lw_tbl : List Cond := k2_sels lw_privs ++ tables_1
theorem lw_privs_ok : ∀ q ∈ lw_privs, lw_okq q := by
  show ∀ q ∈ lw_privs_1 ++ (lw_privs_2), lw_okq q
  exact List.forall_mem_append.mpr ⟨lw_r1, lw_r2⟩
end
section
def RX0 : String := "CopyReplace$Phrase"
def TX0 : u_T := fun k => match k with
  | 0 => ("CopyReplace$Phrase", "number", "I", true)
  | 1 => ("CopyReplace$Phrase", "kind", "I", true)
  | 2 => ("CopyReplace$Phrase", "fromWords", "LCopyReplace$Words;", true)
  | _ => ("CopyReplace$Phrase", "toWords", "LCopyReplace$Words;", true)
def tyX0 : Nat → FieldType := fun k => match k with
  | 0 => .int
  | 1 => .int
  | 2 => .object "CopyReplace$Words"
  | _ => .object "CopyReplace$Words"
abbrev wsX00 : List Cond := u_ws RX0 TX0 4
theorem nmX0 : ∀ a, a < 4 → ∀ b, b < 4 → a ≠ b → (TX0 a).2.1 ≠ (TX0 b).2.1 := by decide +kernel
theorem tyX0_ok : ∀ k, k < 4 → parseFieldDescriptor (TX0 k).2.2.1 = some (tyX0 k) := by decide +kernel
abbrev cX0_init : ByteArray := prog_2_method_1_code
def yX0_init : MethodName := ⟨RX0, "<init>", "(II)V"⟩
def RX1 : String := "CopyReplace$Row"
def TX1 : u_T := fun k => match k with
  | 0 => ("CopyReplace$Row", "codes", "[I", true)
  | 1 => ("CopyReplace$Row", "texts", "[I", true)
  | 2 => ("CopyReplace$Row", "entries", "[I", true)
  | 3 => ("CopyReplace$Row", "phrases", "[I", true)
  | 4 => ("CopyReplace$Row", "copies", "[I", true)
  | 5 => ("CopyReplace$Row", "suppressed", "[Z", true)
  | _ => ("CopyReplace$Row", "size", "I", false)
def tyX1 : Nat → FieldType := fun k => match k with
  | 0 => .array .int
  | 1 => .array .int
  | 2 => .array .int
  | 3 => .array .int
  | 4 => .array .int
  | 5 => .array .boolean
  | _ => .int
abbrev wsX10 : List Cond := u_ws RX1 TX1 7
theorem nmX1 : ∀ a, a < 7 → ∀ b, b < 7 → a ≠ b → (TX1 a).2.1 ≠ (TX1 b).2.1 := by decide +kernel
theorem tyX1_ok : ∀ k, k < 7 → parseFieldDescriptor (TX1 k).2.2.1 = some (tyX1 k) := by decide +kernel
abbrev cX1_init : ByteArray := prog_3_method_1_code
def yX1_init : MethodName := ⟨RX1, "<init>", "()V"⟩
abbrev cX1_clear : ByteArray := prog_3_method_2_code
def yX1_clear : MethodName := ⟨RX1, "clear", "()V"⟩
abbrev cX1_has : ByteArray := prog_3_method_3_code
def yX1_has : MethodName := ⟨RX1, "has", "(I)Z"⟩
abbrev cX1_code : ByteArray := prog_3_method_4_code
def yX1_code : MethodName := ⟨RX1, "code", "(I)I"⟩
abbrev cX1_addEntry : ByteArray := prog_3_method_5_code
def yX1_addEntry : MethodName := ⟨RX1, "addEntry", "(IIIIZ)Z"⟩
abbrev cX1_addSame : ByteArray := prog_3_method_6_code
def yX1_addSame : MethodName := ⟨RX1, "addSame", "(LCopyReplace$Row;I)Z"⟩
abbrev cX1_addPut : ByteArray := prog_3_method_7_code
def yX1_addPut : MethodName := ⟨RX1, "addPut", "(IILCopyReplace$Row;I)Z"⟩
abbrev cX1_addAll : ByteArray := prog_3_method_8_code
def yX1_addAll : MethodName := ⟨RX1, "addAll", "(LCopyReplace$Row;)Z"⟩
def RX2 : String := "CopyReplace$Statement"
def TX2 : u_T := fun k => match k with
  | 0 => ("CopyReplace$Statement", "number", "I", true)
  | 1 => ("CopyReplace$Statement", "isCopy", "Z", true)
  | 2 => ("CopyReplace$Statement", "name", "I", true)
  | 3 => ("CopyReplace$Statement", "suppressed", "Z", true)
  | 4 => ("CopyReplace$Statement", "own", "[LCopyReplace$Phrase;", true)
  | _ => ("CopyReplace$Statement", "size", "I", false)
def tyX2 : Nat → FieldType := fun k => match k with
  | 0 => .int
  | 1 => .boolean
  | 2 => .int
  | 3 => .boolean
  | 4 => .array (.object "CopyReplace$Phrase")
  | _ => .int
abbrev wsX20 : List Cond := u_ws RX2 TX2 6
theorem nmX2 : ∀ a, a < 6 → ∀ b, b < 6 → a ≠ b → (TX2 a).2.1 ≠ (TX2 b).2.1 := by decide +kernel
theorem tyX2_ok : ∀ k, k < 6 → parseFieldDescriptor (TX2 k).2.2.1 = some (tyX2 k) := by decide +kernel
abbrev cX2_init : ByteArray := prog_4_method_1_code
def yX2_init : MethodName := ⟨RX2, "<init>", "(IZIZ)V"⟩
abbrev cX2_append : ByteArray := prog_4_method_2_code
def yX2_append : MethodName := ⟨RX2, "append", "(LCopyReplace$Phrase;)V"⟩
abbrev cX2_get : ByteArray := prog_4_method_3_code
def yX2_get : MethodName := ⟨RX2, "get", "(I)LCopyReplace$Phrase;"⟩
def RX3 : String := "CopyReplace$Text"
def TX3 : u_T := fun k => match k with
  | 0 => ("CopyReplace$Text", "number", "I", true)
  | 1 => ("CopyReplace$Text", "name", "I", true)
  | 2 => ("CopyReplace$Text", "row", "LCopyReplace$Row;", true)
  | 3 => ("CopyReplace$Text", "entries", "[I", true)
  | _ => ("CopyReplace$Text", "size", "I", false)
def tyX3 : Nat → FieldType := fun k => match k with
  | 0 => .int
  | 1 => .int
  | 2 => .object "CopyReplace$Row"
  | 3 => .array .int
  | _ => .int
abbrev wsX30 : List Cond := u_ws RX3 TX3 5
theorem nmX3 : ∀ a, a < 5 → ∀ b, b < 5 → a ≠ b → (TX3 a).2.1 ≠ (TX3 b).2.1 := by decide +kernel
theorem tyX3_ok : ∀ k, k < 5 → parseFieldDescriptor (TX3 k).2.2.1 = some (tyX3 k) := by decide +kernel
abbrev cX3_init : ByteArray := prog_5_method_1_code
def yX3_init : MethodName := ⟨RX3, "<init>", "(II)V"⟩
abbrev cX3_append : ByteArray := prog_5_method_2_code
def yX3_append : MethodName := ⟨RX3, "append", "(I)Z"⟩
abbrev cX3_entry : ByteArray := prog_5_method_3_code
def yX3_entry : MethodName := ⟨RX3, "entry", "(I)I"⟩
def RX4 : String := "CopyReplace$Words"
def TX4 : u_T := fun k => match k with
  | 0 => ("CopyReplace$Words", "items", "[I", true)
  | _ => ("CopyReplace$Words", "size", "I", false)
def tyX4 : Nat → FieldType := fun k => match k with
  | 0 => .array .int
  | _ => .int
abbrev wsX40 : List Cond := u_ws RX4 TX4 2
theorem nmX4 : ∀ a, a < 2 → ∀ b, b < 2 → a ≠ b → (TX4 a).2.1 ≠ (TX4 b).2.1 := by decide +kernel
theorem tyX4_ok : ∀ k, k < 2 → parseFieldDescriptor (TX4 k).2.2.1 = some (tyX4 k) := by decide +kernel
abbrev cX4_init : ByteArray := prog_6_method_1_code
def yX4_init : MethodName := ⟨RX4, "<init>", "()V"⟩
abbrev cX4_isFull : ByteArray := prog_6_method_2_code
def yX4_isFull : MethodName := ⟨RX4, "isFull", "()Z"⟩
abbrev cX4_append : ByteArray := prog_6_method_3_code
def yX4_append : MethodName := ⟨RX4, "append", "(I)V"⟩
abbrev cX4_get : ByteArray := prog_6_method_4_code
def yX4_get : MethodName := ⟨RX4, "get", "(I)I"⟩
def RX5 : String := "CopyReplace"
def TX5 : u_T := fun k => match k with
  | 0 => ("CopyReplace", "texts", "[LCopyReplace$Text;", true)
  | 1 => ("CopyReplace", "statements", "[LCopyReplace$Statement;", true)
  | 2 => ("CopyReplace", "phrases", "[LCopyReplace$Phrase;", true)
  | 3 => ("CopyReplace", "textCount", "I", false)
  | 4 => ("CopyReplace", "statementCount", "I", false)
  | 5 => ("CopyReplace", "phraseCount", "I", false)
  | 6 => ("CopyReplace", "open", "[LCopyReplace$Text;", true)
  | 7 => ("CopyReplace", "copied", "LCopyReplace$Row;", true)
  | 8 => ("CopyReplace", "result", "LCopyReplace$Row;", true)
  | 9 => ("CopyReplace", "ringNames", "[I", true)
  | 10 => ("CopyReplace", "ringSize", "I", false)
  | 11 => ("CopyReplace", "copiesDone", "I", false)
  | _ => ("CopyReplace", "matches", "I", false)
def tyX5 : Nat → FieldType := fun k => match k with
  | 0 => .array (.object "CopyReplace$Text")
  | 1 => .array (.object "CopyReplace$Statement")
  | 2 => .array (.object "CopyReplace$Phrase")
  | 3 => .int
  | 4 => .int
  | 5 => .int
  | 6 => .array (.object "CopyReplace$Text")
  | 7 => .object "CopyReplace$Row"
  | 8 => .object "CopyReplace$Row"
  | 9 => .array .int
  | 10 => .int
  | 11 => .int
  | _ => .int
abbrev wsX50 : List Cond := u_ws RX5 TX5 13
theorem nmX5 : ∀ a, a < 13 → ∀ b, b < 13 → a ≠ b → (TX5 a).2.1 ≠ (TX5 b).2.1 := by decide +kernel
theorem tyX5_ok : ∀ k, k < 13 → parseFieldDescriptor (TX5 k).2.2.1 = some (tyX5 k) := by decide +kernel
abbrev cX5_init : ByteArray := prog_1_method_1_code
def yX5_init : MethodName := ⟨RX5, "<init>", "()V"⟩
abbrev cX5_library : ByteArray := prog_1_method_2_code
def yX5_library : MethodName := ⟨RX5, "library", "(I)I"⟩
abbrev cX5_word : ByteArray := prog_1_method_3_code
def yX5_word : MethodName := ⟨RX5, "word", "(II)I"⟩
abbrev cX5_copy : ByteArray := prog_1_method_4_code
def yX5_copy : MethodName := ⟨RX5, "copy", "(IIZ)I"⟩
abbrev cX5_replace : ByteArray := prog_1_method_5_code
def yX5_replace : MethodName := ⟨RX5, "replace", "(I)I"⟩
abbrev cX5_off : ByteArray := prog_1_method_6_code
def yX5_off : MethodName := ⟨RX5, "off", "(I)I"⟩
abbrev cX5_phrase : ByteArray := prog_1_method_7_code
def yX5_phrase : MethodName := ⟨RX5, "phrase", "(III)I"⟩
abbrev cX5_from : ByteArray := prog_1_method_8_code
def yX5_from : MethodName := ⟨RX5, "from", "(II)I"⟩
abbrev cX5_to : ByteArray := prog_1_method_9_code
def yX5_to : MethodName := ⟨RX5, "to", "(II)I"⟩
abbrev cX5_run : ByteArray := prog_1_method_10_code
def yX5_run : MethodName := ⟨RX5, "run", "()I"⟩
abbrev cX5_at : ByteArray := prog_1_method_11_code
def yX5_at : MethodName := ⟨RX5, "at", "(I)I"⟩
abbrev cX5_place : ByteArray := prog_1_method_12_code
def yX5_place : MethodName := ⟨RX5, "place", "(II)I"⟩
abbrev cX5_ring : ByteArray := prog_1_method_13_code
def yX5_ring : MethodName := ⟨RX5, "ring", "(I)I"⟩
abbrev cX5_count : ByteArray := prog_1_method_14_code
def yX5_count : MethodName := ⟨RX5, "count", "(I)I"⟩
abbrev cX5_addStatement : ByteArray := prog_1_method_15_code
def yX5_addStatement : MethodName := ⟨RX5, "addStatement", "(LCopyReplace$Text;ZIZ)I"⟩
abbrev cX5_textNumbered : ByteArray := prog_1_method_16_code
def yX5_textNumbered : MethodName := ⟨RX5, "textNumbered", "(I)LCopyReplace$Text;"⟩
abbrev cX5_statementNumbered : ByteArray := prog_1_method_17_code
def yX5_statementNumbered : MethodName := ⟨RX5, "statementNumbered", "(I)LCopyReplace$Statement;"⟩
abbrev cX5_phraseNumbered : ByteArray := prog_1_method_18_code
def yX5_phraseNumbered : MethodName := ⟨RX5, "phraseNumbered", "(I)LCopyReplace$Phrase;"⟩
abbrev cX5_statementOf : ByteArray := prog_1_method_19_code
def yX5_statementOf : MethodName := ⟨RX5, "statementOf", "(I)LCopyReplace$Statement;"⟩
abbrev cX5_textNamed : ByteArray := prog_1_method_20_code
def yX5_textNamed : MethodName := ⟨RX5, "textNamed", "(I)LCopyReplace$Text;"⟩
abbrev cX5_makeRow : ByteArray := prog_1_method_21_code
def yX5_makeRow : MethodName := ⟨RX5, "makeRow", "(LCopyReplace$Text;IZ)I"⟩
abbrev cX5_addCopy : ByteArray := prog_1_method_22_code
def yX5_addCopy : MethodName := ⟨RX5, "addCopy", "(LCopyReplace$Row;LCopyReplace$Statement;IZ)I"⟩
abbrev cX5_closesRing : ByteArray := prog_1_method_23_code
def yX5_closesRing : MethodName := ⟨RX5, "closesRing", "(LCopyReplace$Text;I)Z"⟩
abbrev cX5_keepRingName : ByteArray := prog_1_method_24_code
def yX5_keepRingName : MethodName := ⟨RX5, "keepRingName", "(LCopyReplace$Text;)V"⟩
abbrev cX5_matchByReplaces : ByteArray := prog_1_method_25_code
def yX5_matchByReplaces : MethodName := ⟨RX5, "matchByReplaces", "(LCopyReplace$Row;)I"⟩
abbrev cX5_matchPart : ByteArray := prog_1_method_26_code
def yX5_matchPart : MethodName := ⟨RX5, "matchPart", "(LCopyReplace$Row;IILCopyReplace$Statement;LCopyReplace$Row;)I"⟩
abbrev cX5_matchAt : ByteArray := prog_1_method_27_code
def yX5_matchAt : MethodName := ⟨RX5, "matchAt", "(LCopyReplace$Row;IILCopyReplace$Statement;LCopyReplace$Row;)I"⟩
abbrev cX5_behindMatch : ByteArray := prog_1_method_28_code
def yX5_behindMatch : MethodName := ⟨RX5, "behindMatch", "(LCopyReplace$Phrase;LCopyReplace$Row;II)I"⟩
abbrev cX5_put : ByteArray := prog_1_method_29_code
def yX5_put : MethodName := ⟨RX5, "put", "(LCopyReplace$Phrase;LCopyReplace$Row;ILCopyReplace$Row;)I"⟩
abbrev cX5_hasPart : ByteArray := prog_1_method_30_code
def yX5_hasPart : MethodName := ⟨RX5, "hasPart", "(ILCopyReplace$Phrase;)Z"⟩
abbrev cX5_withPartChanged : ByteArray := prog_1_method_31_code
def yX5_withPartChanged : MethodName := ⟨RX5, "withPartChanged", "(ILCopyReplace$Phrase;)I"⟩
abbrev cX5_isName : ByteArray := prog_1_method_32_code
def yX5_isName : MethodName := ⟨RX5, "isName", "(I)Z"⟩
abbrev cX5_isPlain : ByteArray := prog_1_method_33_code
def yX5_isPlain : MethodName := ⟨RX5, "isPlain", "(I)Z"⟩
abbrev cX5_isWord : ByteArray := prog_1_method_34_code
def yX5_isWord : MethodName := ⟨RX5, "isWord", "(I)Z"⟩
abbrev cX5_letters : ByteArray := prog_1_method_35_code
def yX5_letters : MethodName := ⟨RX5, "letters", "(I)I"⟩
abbrev cX5_power : ByteArray := prog_1_method_36_code
def yX5_power : MethodName := ⟨RX5, "power", "(I)I"⟩
abbrev cX5_withoutLast : ByteArray := prog_1_method_37_code
def yX5_withoutLast : MethodName := ⟨RX5, "withoutLast", "(II)I"⟩
abbrev cX5_lastOf : ByteArray := prog_1_method_38_code
def yX5_lastOf : MethodName := ⟨RX5, "lastOf", "(II)I"⟩
def RX6 : String := "CopyReplaceModel"
def TX6 : u_T := fun k => match k with
  | 0 => ("CopyReplaceModel", "thrown", "I", false)
  | 1 => ("CopyReplaceModel", "libraries", "I", false)
  | 2 => ("CopyReplaceModel", "statements", "I", false)
  | 3 => ("CopyReplaceModel", "phrases", "I", false)
  | 4 => ("CopyReplaceModel", "name", "[I", true)
  | 5 => ("CopyReplaceModel", "many", "[I", true)
  | 6 => ("CopyReplaceModel", "entry", "[I", true)
  | 7 => ("CopyReplaceModel", "target", "[I", true)
  | 8 => ("CopyReplaceModel", "phraseMany", "[I", true)
  | 9 => ("CopyReplaceModel", "phrase", "[I", true)
  | 10 => ("CopyReplaceModel", "isCopy", "[Z", true)
  | 11 => ("CopyReplaceModel", "hidden", "[Z", true)
  | 12 => ("CopyReplaceModel", "kind", "[I", true)
  | 13 => ("CopyReplaceModel", "fromMany", "[I", true)
  | 14 => ("CopyReplaceModel", "toMany", "[I", true)
  | 15 => ("CopyReplaceModel", "from", "[I", true)
  | 16 => ("CopyReplaceModel", "to", "[I", true)
  | 17 => ("CopyReplaceModel", "sign", "[I", true)
  | 18 => ("CopyReplaceModel", "text", "[I", true)
  | 19 => ("CopyReplaceModel", "place", "[I", true)
  | 20 => ("CopyReplaceModel", "by", "[I", true)
  | 21 => ("CopyReplaceModel", "quiet", "[I", true)
  | 22 => ("CopyReplaceModel", "came", "[I", true)
  | 23 => ("CopyReplaceModel", "length", "[I", true)
  | 24 => ("CopyReplaceModel", "textAt", "[I", true)
  | 25 => ("CopyReplaceModel", "entryAt", "[I", true)
  | 26 => ("CopyReplaceModel", "statementAt", "[I", true)
  | 27 => ("CopyReplaceModel", "high", "I", false)
  | 28 => ("CopyReplaceModel", "fault", "I", false)
  | 29 => ("CopyReplaceModel", "copies", "I", false)
  | 30 => ("CopyReplaceModel", "matches", "I", false)
  | 31 => ("CopyReplaceModel", "rings", "I", false)
  | 32 => ("CopyReplaceModel", "shown", "I", false)
  | _ => ("CopyReplaceModel", "ring", "[I", true)
def tyX6 : Nat → FieldType := fun k => match k with
  | 0 => .int
  | 1 => .int
  | 2 => .int
  | 3 => .int
  | 4 => .array .int
  | 5 => .array .int
  | 6 => .array .int
  | 7 => .array .int
  | 8 => .array .int
  | 9 => .array .int
  | 10 => .array .boolean
  | 11 => .array .boolean
  | 12 => .array .int
  | 13 => .array .int
  | 14 => .array .int
  | 15 => .array .int
  | 16 => .array .int
  | 17 => .array .int
  | 18 => .array .int
  | 19 => .array .int
  | 20 => .array .int
  | 21 => .array .int
  | 22 => .array .int
  | 23 => .array .int
  | 24 => .array .int
  | 25 => .array .int
  | 26 => .array .int
  | 27 => .int
  | 28 => .int
  | 29 => .int
  | 30 => .int
  | 31 => .int
  | 32 => .int
  | _ => .array .int
abbrev wsX60 : List Cond := u_ws RX6 TX6 34
theorem nmX6 : ∀ a, a < 34 → ∀ b, b < 34 → a ≠ b → (TX6 a).2.1 ≠ (TX6 b).2.1 := by decide +kernel
theorem tyX6_ok : ∀ k, k < 34 → parseFieldDescriptor (TX6 k).2.2.1 = some (tyX6 k) := by decide +kernel
abbrev cX6_init : ByteArray := prog_8_method_1_code
def yX6_init : MethodName := ⟨RX6, "<init>", "()V"⟩
abbrev cX6_thrown : ByteArray := prog_8_method_2_code
def yX6_thrown : MethodName := ⟨RX6, "thrown", "()I"⟩
abbrev cX6_isWord : ByteArray := prog_8_method_3_code
def yX6_isWord : MethodName := ⟨RX6, "isWord", "(I)Z"⟩
abbrev cX6_isText : ByteArray := prog_8_method_4_code
def yX6_isText : MethodName := ⟨RX6, "isText", "(I)Z"⟩
abbrev cX6_add : ByteArray := prog_8_method_5_code
def yX6_add : MethodName := ⟨RX6, "add", "(II)I"⟩
abbrev cX6_library : ByteArray := prog_8_method_6_code
def yX6_library : MethodName := ⟨RX6, "library", "(I)I"⟩
abbrev cX6_word : ByteArray := prog_8_method_7_code
def yX6_word : MethodName := ⟨RX6, "word", "(II)I"⟩
abbrev cX6_statement : ByteArray := prog_8_method_8_code
def yX6_statement : MethodName := ⟨RX6, "statement", "(IZIZ)I"⟩
abbrev cX6_copy : ByteArray := prog_8_method_9_code
def yX6_copy : MethodName := ⟨RX6, "copy", "(IIZ)I"⟩
abbrev cX6_replace : ByteArray := prog_8_method_10_code
def yX6_replace : MethodName := ⟨RX6, "replace", "(I)I"⟩
abbrev cX6_off : ByteArray := prog_8_method_11_code
def yX6_off : MethodName := ⟨RX6, "off", "(I)I"⟩
abbrev cX6_phrase : ByteArray := prog_8_method_12_code
def yX6_phrase : MethodName := ⟨RX6, "phrase", "(III)I"⟩
abbrev cX6_from : ByteArray := prog_8_method_13_code
def yX6_from : MethodName := ⟨RX6, "from", "(II)I"⟩
abbrev cX6_to : ByteArray := prog_8_method_14_code
def yX6_to : MethodName := ⟨RX6, "to", "(II)I"⟩
abbrev cX6_put : ByteArray := prog_8_method_15_code
def yX6_put : MethodName := ⟨RX6, "put", "(IIIIIII)Z"⟩
abbrev cX6_again : ByteArray := prog_8_method_16_code
def yX6_again : MethodName := ⟨RX6, "again", "(II)Z"⟩
abbrev cX6_letters : ByteArray := prog_8_method_17_code
def yX6_letters : MethodName := ⟨RX6, "letters", "(I)I"⟩
abbrev cX6_power : ByteArray := prog_8_method_18_code
def yX6_power : MethodName := ⟨RX6, "power", "(I)I"⟩
abbrev cX6_behind : ByteArray := prog_8_method_19_code
def yX6_behind : MethodName := ⟨RX6, "behind", "(III)I"⟩
abbrev cX6_hasPart : ByteArray := prog_8_method_20_code
def yX6_hasPart : MethodName := ⟨RX6, "hasPart", "(II)Z"⟩
abbrev cX6_changed : ByteArray := prog_8_method_21_code
def yX6_changed : MethodName := ⟨RX6, "changed", "(II)I"⟩
abbrev cX6_step : ByteArray := prog_8_method_22_code
def yX6_step : MethodName := ⟨RX6, "step", "(IIII)I"⟩
abbrev cX6_match : ByteArray := prog_8_method_23_code
def yX6_match : MethodName := ⟨RX6, "match", "(II)V"⟩
abbrev cX6_textNamed : ByteArray := prog_8_method_24_code
def yX6_textNamed : MethodName := ⟨RX6, "textNamed", "(I)I"⟩
abbrev cX6_begin : ByteArray := prog_8_method_25_code
def yX6_begin : MethodName := ⟨RX6, "begin", "(II)V"⟩
abbrev cX6_copied : ByteArray := prog_8_method_26_code
def yX6_copied : MethodName := ⟨RX6, "copied", "(I)V"⟩
abbrev cX6_end : ByteArray := prog_8_method_27_code
def yX6_end : MethodName := ⟨RX6, "end", "()V"⟩
abbrev cX6_run : ByteArray := prog_8_method_28_code
def yX6_run : MethodName := ⟨RX6, "run", "()I"⟩
abbrev cX6_at : ByteArray := prog_8_method_29_code
def yX6_at : MethodName := ⟨RX6, "at", "(I)I"⟩
abbrev cX6_place : ByteArray := prog_8_method_30_code
def yX6_place : MethodName := ⟨RX6, "place", "(II)I"⟩
abbrev cX6_ring : ByteArray := prog_8_method_31_code
def yX6_ring : MethodName := ⟨RX6, "ring", "(I)I"⟩
abbrev cX6_count : ByteArray := prog_8_method_32_code
def yX6_count : MethodName := ⟨RX6, "count", "(I)I"⟩
def RJx00060 : String := "java/lang/ArrayIndexOutOfBoundsException"
def TJx00060 : u_T := fun k => match k with
  | 0 => ("java/lang/Throwable", "cause", "Ljava/lang/Throwable;", false)
  | 1 => ("java/lang/Throwable", "stackTrace", "[Ljava/lang/StackTraceElement;", false)
  | 2 => ("java/lang/Throwable", "suppressedExceptions", "Ljava/util/List;", false)
  | 3 => ("java/lang/Throwable", "detailMessage", "Ljava/lang/String;", false)
  | 4 => ("java/lang/Throwable", "backtrace", "Ljava/lang/Object;", false)
  | _ => ("java/lang/Throwable", "depth", "I", false)
def tyJx00060 : Nat → FieldType := fun k => match k with
  | 0 => .object "java/lang/Throwable"
  | 1 => .array (.object "java/lang/StackTraceElement")
  | 2 => .object "java/util/List"
  | 3 => .object "java/lang/String"
  | 4 => .object "java/lang/Object"
  | _ => .int
abbrev wsJx000600 : List Cond := u_ws RJx00060 TJx00060 6
theorem nmJx00060 : ∀ a, a < 6 → ∀ b, b < 6 → a ≠ b → (TJx00060 a).2.1 ≠ (TJx00060 b).2.1 := by decide +kernel
theorem tyJx00060_ok : ∀ k, k < 6 → parseFieldDescriptor (TJx00060 k).2.2.1 = some (tyJx00060 k) := by decide +kernel
abbrev cJx00060_init_da8c8 : ByteArray := prog_9_method_1_code
def yJx00060_init_da8c8 : MethodName := ⟨RJx00060, "<init>", "()V"⟩
def RL : String := "CopyReplaceLaw"
abbrev cL_at : ByteArray := method_3_code
def yL_at : MethodName := ⟨RL, "at", "(LCopyReplace;I[J)I"⟩
abbrev cL_law : ByteArray := code
def yL_law : MethodName := ⟨RL, "law", "([I)Z"⟩
abbrev vwCl : List vw_C := [(RJx00060, TJx00060, 6), (RX0, TX0, 4), (RX1, TX1, 7), (RX2, TX2, 6), (RX3, TX3, 5), (RX4, TX4, 2), (RX5, TX5, 13), (RX6, TX6, 34)]
end
section
theorem dX0_init_0 : decode cX0_init 0 = .ok (.aload_n 0, 1) := by decide +kernel
theorem dX0_init_1 : decode cX0_init 1 = .ok (.invokespecial 1, 3) := by decide +kernel
theorem dX0_init_4 : decode cX0_init 4 = .ok (.aload_n 0, 1) := by decide +kernel
theorem dX0_init_5 : decode cX0_init 5 = .ok (.new 7, 3) := by decide +kernel
theorem dX0_init_8 : decode cX0_init 8 = .ok (.dup, 1) := by decide +kernel
theorem dX0_init_9 : decode cX0_init 9 = .ok (.invokespecial 9, 3) := by decide +kernel
theorem dX0_init_12 : decode cX0_init 12 = .ok (.putfield 10, 3) := by decide +kernel
theorem dX0_init_15 : decode cX0_init 15 = .ok (.aload_n 0, 1) := by decide +kernel
theorem dX0_init_16 : decode cX0_init 16 = .ok (.new 7, 3) := by decide +kernel
theorem dX0_init_19 : decode cX0_init 19 = .ok (.dup, 1) := by decide +kernel
theorem dX0_init_20 : decode cX0_init 20 = .ok (.invokespecial 9, 3) := by decide +kernel
theorem dX0_init_23 : decode cX0_init 23 = .ok (.putfield 16, 3) := by decide +kernel
theorem dX0_init_26 : decode cX0_init 26 = .ok (.aload_n 0, 1) := by decide +kernel
theorem dX0_init_27 : decode cX0_init 27 = .ok (.iload_n 1, 1) := by decide +kernel
theorem dX0_init_28 : decode cX0_init 28 = .ok (.putfield 19, 3) := by decide +kernel
theorem dX0_init_31 : decode cX0_init 31 = .ok (.aload_n 0, 1) := by decide +kernel
theorem dX0_init_32 : decode cX0_init 32 = .ok (.iload_n 2, 1) := by decide +kernel
theorem dX0_init_33 : decode cX0_init 33 = .ok (.putfield 23, 3) := by decide +kernel
theorem dX0_init_36 : decode cX0_init 36 = .ok (.return_, 1) := by decide +kernel
theorem dX1_init_0 : decode cX1_init 0 = .ok (.aload_n 0, 1) := by decide +kernel
theorem dX1_init_1 : decode cX1_init 1 = .ok (.invokespecial 3, 3) := by decide +kernel
theorem dX1_init_4 : decode cX1_init 4 = .ok (.aload_n 0, 1) := by decide +kernel
theorem dX1_init_5 : decode cX1_init 5 = .ok (.sipush 300, 3) := by decide +kernel
theorem dX1_init_8 : decode cX1_init 8 = .ok (.newarray .int, 2) := by decide +kernel
theorem dX1_init_10 : decode cX1_init 10 = .ok (.putfield 9, 3) := by decide +kernel
theorem dX1_init_13 : decode cX1_init 13 = .ok (.aload_n 0, 1) := by decide +kernel
theorem dX1_init_14 : decode cX1_init 14 = .ok (.sipush 300, 3) := by decide +kernel
theorem dX1_init_17 : decode cX1_init 17 = .ok (.newarray .int, 2) := by decide +kernel
theorem dX1_init_19 : decode cX1_init 19 = .ok (.putfield 15, 3) := by decide +kernel
theorem dX1_init_22 : decode cX1_init 22 = .ok (.aload_n 0, 1) := by decide +kernel
theorem dX1_init_23 : decode cX1_init 23 = .ok (.sipush 300, 3) := by decide +kernel
theorem dX1_init_26 : decode cX1_init 26 = .ok (.newarray .int, 2) := by decide +kernel
theorem dX1_init_28 : decode cX1_init 28 = .ok (.putfield 18, 3) := by decide +kernel
theorem dX1_init_31 : decode cX1_init 31 = .ok (.aload_n 0, 1) := by decide +kernel
theorem dX1_init_32 : decode cX1_init 32 = .ok (.sipush 300, 3) := by decide +kernel
theorem dX1_init_35 : decode cX1_init 35 = .ok (.newarray .int, 2) := by decide +kernel
theorem dX1_init_37 : decode cX1_init 37 = .ok (.putfield 21, 3) := by decide +kernel
theorem dX1_init_40 : decode cX1_init 40 = .ok (.aload_n 0, 1) := by decide +kernel
theorem dX1_init_41 : decode cX1_init 41 = .ok (.sipush 300, 3) := by decide +kernel
theorem dX1_init_44 : decode cX1_init 44 = .ok (.newarray .int, 2) := by decide +kernel
theorem dX1_init_46 : decode cX1_init 46 = .ok (.putfield 24, 3) := by decide +kernel
theorem dX1_init_49 : decode cX1_init 49 = .ok (.aload_n 0, 1) := by decide +kernel
theorem dX1_init_50 : decode cX1_init 50 = .ok (.sipush 300, 3) := by decide +kernel
theorem dX1_init_53 : decode cX1_init 53 = .ok (.newarray .boolean, 2) := by decide +kernel
theorem dX1_init_55 : decode cX1_init 55 = .ok (.putfield 27, 3) := by decide +kernel
theorem dX1_init_58 : decode cX1_init 58 = .ok (.return_, 1) := by decide +kernel
theorem dX1_clear_0 : decode cX1_clear 0 = .ok (.aload_n 0, 1) := by decide +kernel
theorem dX1_clear_1 : decode cX1_clear 1 = .ok (.iconst 0, 1) := by decide +kernel
theorem dX1_clear_2 : decode cX1_clear 2 = .ok (.putfield 31, 3) := by decide +kernel
theorem dX1_clear_5 : decode cX1_clear 5 = .ok (.return_, 1) := by decide +kernel
theorem dX1_has_0 : decode cX1_has 0 = .ok (.iload_n 1, 1) := by decide +kernel
theorem dX1_has_1 : decode cX1_has 1 = .ok (.ifCond .lt 15, 3) := by decide +kernel
theorem dX1_has_4 : decode cX1_has 4 = .ok (.iload_n 1, 1) := by decide +kernel
theorem dX1_has_5 : decode cX1_has 5 = .ok (.aload_n 0, 1) := by decide +kernel
theorem dX1_has_6 : decode cX1_has 6 = .ok (.getfield 31, 3) := by decide +kernel
theorem dX1_has_9 : decode cX1_has 9 = .ok (.if_icmp .ge 7, 3) := by decide +kernel
theorem dX1_has_12 : decode cX1_has 12 = .ok (.iconst 1, 1) := by decide +kernel
theorem dX1_has_13 : decode cX1_has 13 = .ok (.goto 4, 3) := by decide +kernel
theorem dX1_has_16 : decode cX1_has 16 = .ok (.iconst 0, 1) := by decide +kernel
theorem dX1_has_17 : decode cX1_has 17 = .ok (.ireturn, 1) := by decide +kernel
theorem dX1_code_0 : decode cX1_code 0 = .ok (.aload_n 0, 1) := by decide +kernel
theorem dX1_code_1 : decode cX1_code 1 = .ok (.iload_n 1, 1) := by decide +kernel
theorem dX1_code_2 : decode cX1_code 2 = .ok (.invokevirtual 35, 3) := by decide +kernel
theorem dX1_code_5 : decode cX1_code 5 = .ok (.ifCond .eq 12, 3) := by decide +kernel
theorem dX1_code_8 : decode cX1_code 8 = .ok (.aload_n 0, 1) := by decide +kernel
theorem dX1_code_9 : decode cX1_code 9 = .ok (.getfield 9, 3) := by decide +kernel
theorem dX1_code_12 : decode cX1_code 12 = .ok (.iload_n 1, 1) := by decide +kernel
theorem dX1_code_13 : decode cX1_code 13 = .ok (.iaload, 1) := by decide +kernel
theorem dX1_code_14 : decode cX1_code 14 = .ok (.goto 4, 3) := by decide +kernel
theorem dX1_code_17 : decode cX1_code 17 = .ok (.iconst (-1), 1) := by decide +kernel
theorem dX1_code_18 : decode cX1_code 18 = .ok (.ireturn, 1) := by decide +kernel
theorem dX1_addEntry_0 : decode cX1_addEntry 0 = .ok (.aload_n 0, 1) := by decide +kernel
theorem dX1_addEntry_1 : decode cX1_addEntry 1 = .ok (.getfield 31, 3) := by decide +kernel
theorem dX1_addEntry_4 : decode cX1_addEntry 4 = .ok (.sipush 300, 3) := by decide +kernel
theorem dX1_addEntry_7 : decode cX1_addEntry 7 = .ok (.if_icmp .lt 5, 3) := by decide +kernel
theorem dX1_addEntry_10 : decode cX1_addEntry 10 = .ok (.iconst 0, 1) := by decide +kernel
theorem dX1_addEntry_11 : decode cX1_addEntry 11 = .ok (.ireturn, 1) := by decide +kernel
theorem dX1_addEntry_12 : decode cX1_addEntry 12 = .ok (.aload_n 0, 1) := by decide +kernel
theorem dX1_addEntry_13 : decode cX1_addEntry 13 = .ok (.getfield 9, 3) := by decide +kernel
theorem dX1_addEntry_16 : decode cX1_addEntry 16 = .ok (.aload_n 0, 1) := by decide +kernel
theorem dX1_addEntry_17 : decode cX1_addEntry 17 = .ok (.getfield 31, 3) := by decide +kernel
theorem dX1_addEntry_20 : decode cX1_addEntry 20 = .ok (.iload_n 1, 1) := by decide +kernel
theorem dX1_addEntry_21 : decode cX1_addEntry 21 = .ok (.iastore, 1) := by decide +kernel
theorem dX1_addEntry_22 : decode cX1_addEntry 22 = .ok (.aload_n 0, 1) := by decide +kernel
theorem dX1_addEntry_23 : decode cX1_addEntry 23 = .ok (.getfield 15, 3) := by decide +kernel
theorem dX1_addEntry_26 : decode cX1_addEntry 26 = .ok (.aload_n 0, 1) := by decide +kernel
theorem dX1_addEntry_27 : decode cX1_addEntry 27 = .ok (.getfield 31, 3) := by decide +kernel
theorem dX1_addEntry_30 : decode cX1_addEntry 30 = .ok (.iload_n 2, 1) := by decide +kernel
theorem dX1_addEntry_31 : decode cX1_addEntry 31 = .ok (.iastore, 1) := by decide +kernel
theorem dX1_addEntry_32 : decode cX1_addEntry 32 = .ok (.aload_n 0, 1) := by decide +kernel
theorem dX1_addEntry_33 : decode cX1_addEntry 33 = .ok (.getfield 18, 3) := by decide +kernel
theorem dX1_addEntry_36 : decode cX1_addEntry 36 = .ok (.aload_n 0, 1) := by decide +kernel
theorem dX1_addEntry_37 : decode cX1_addEntry 37 = .ok (.getfield 31, 3) := by decide +kernel
theorem dX1_addEntry_40 : decode cX1_addEntry 40 = .ok (.iload_n 3, 1) := by decide +kernel
theorem dX1_addEntry_41 : decode cX1_addEntry 41 = .ok (.iastore, 1) := by decide +kernel
theorem dX1_addEntry_42 : decode cX1_addEntry 42 = .ok (.aload_n 0, 1) := by decide +kernel
theorem dX1_addEntry_43 : decode cX1_addEntry 43 = .ok (.getfield 21, 3) := by decide +kernel
theorem dX1_addEntry_46 : decode cX1_addEntry 46 = .ok (.aload_n 0, 1) := by decide +kernel
theorem dX1_addEntry_47 : decode cX1_addEntry 47 = .ok (.getfield 31, 3) := by decide +kernel
theorem dX1_addEntry_50 : decode cX1_addEntry 50 = .ok (.iconst 0, 1) := by decide +kernel
theorem dX1_addEntry_51 : decode cX1_addEntry 51 = .ok (.iastore, 1) := by decide +kernel
theorem dX1_addEntry_52 : decode cX1_addEntry 52 = .ok (.aload_n 0, 1) := by decide +kernel
theorem dX1_addEntry_53 : decode cX1_addEntry 53 = .ok (.getfield 24, 3) := by decide +kernel
theorem dX1_addEntry_56 : decode cX1_addEntry 56 = .ok (.aload_n 0, 1) := by decide +kernel
theorem dX1_addEntry_57 : decode cX1_addEntry 57 = .ok (.getfield 31, 3) := by decide +kernel
theorem dX1_addEntry_60 : decode cX1_addEntry 60 = .ok (.iload 4, 2) := by decide +kernel
theorem dX1_addEntry_62 : decode cX1_addEntry 62 = .ok (.iastore, 1) := by decide +kernel
theorem dX1_addEntry_63 : decode cX1_addEntry 63 = .ok (.aload_n 0, 1) := by decide +kernel
theorem dX1_addEntry_64 : decode cX1_addEntry 64 = .ok (.getfield 27, 3) := by decide +kernel
theorem dX1_addEntry_67 : decode cX1_addEntry 67 = .ok (.aload_n 0, 1) := by decide +kernel
theorem dX1_addEntry_68 : decode cX1_addEntry 68 = .ok (.getfield 31, 3) := by decide +kernel
theorem dX1_addEntry_71 : decode cX1_addEntry 71 = .ok (.iload 5, 2) := by decide +kernel
theorem dX1_addEntry_73 : decode cX1_addEntry 73 = .ok (.bastore, 1) := by decide +kernel
theorem dX1_addEntry_74 : decode cX1_addEntry 74 = .ok (.aload_n 0, 1) := by decide +kernel
theorem dX1_addEntry_75 : decode cX1_addEntry 75 = .ok (.dup, 1) := by decide +kernel
theorem dX1_addEntry_76 : decode cX1_addEntry 76 = .ok (.getfield 31, 3) := by decide +kernel
theorem dX1_addEntry_79 : decode cX1_addEntry 79 = .ok (.iconst 1, 1) := by decide +kernel
theorem dX1_addEntry_80 : decode cX1_addEntry 80 = .ok (.iadd, 1) := by decide +kernel
theorem dX1_addEntry_81 : decode cX1_addEntry 81 = .ok (.putfield 31, 3) := by decide +kernel
theorem dX1_addEntry_84 : decode cX1_addEntry 84 = .ok (.iconst 1, 1) := by decide +kernel
theorem dX1_addEntry_85 : decode cX1_addEntry 85 = .ok (.ireturn, 1) := by decide +kernel
theorem dX1_addSame_0 : decode cX1_addSame 0 = .ok (.aload_n 1, 1) := by decide +kernel
theorem dX1_addSame_1 : decode cX1_addSame 1 = .ok (.iload_n 2, 1) := by decide +kernel
theorem dX1_addSame_2 : decode cX1_addSame 2 = .ok (.invokevirtual 35, 3) := by decide +kernel
theorem dX1_addSame_5 : decode cX1_addSame 5 = .ok (.ifCond .eq 28, 3) := by decide +kernel
theorem dX1_addSame_8 : decode cX1_addSame 8 = .ok (.aload_n 0, 1) := by decide +kernel
theorem dX1_addSame_9 : decode cX1_addSame 9 = .ok (.aload_n 1, 1) := by decide +kernel
theorem dX1_addSame_10 : decode cX1_addSame 10 = .ok (.getfield 9, 3) := by decide +kernel
theorem dX1_addSame_13 : decode cX1_addSame 13 = .ok (.iload_n 2, 1) := by decide +kernel
theorem dX1_addSame_14 : decode cX1_addSame 14 = .ok (.iaload, 1) := by decide +kernel
theorem dX1_addSame_15 : decode cX1_addSame 15 = .ok (.aload_n 1, 1) := by decide +kernel
theorem dX1_addSame_16 : decode cX1_addSame 16 = .ok (.getfield 21, 3) := by decide +kernel
theorem dX1_addSame_19 : decode cX1_addSame 19 = .ok (.iload_n 2, 1) := by decide +kernel
theorem dX1_addSame_20 : decode cX1_addSame 20 = .ok (.iaload, 1) := by decide +kernel
theorem dX1_addSame_21 : decode cX1_addSame 21 = .ok (.aload_n 1, 1) := by decide +kernel
theorem dX1_addSame_22 : decode cX1_addSame 22 = .ok (.iload_n 2, 1) := by decide +kernel
theorem dX1_addSame_23 : decode cX1_addSame 23 = .ok (.invokevirtual 39, 3) := by decide +kernel
theorem dX1_addSame_26 : decode cX1_addSame 26 = .ok (.ifCond .eq 7, 3) := by decide +kernel
theorem dX1_addSame_29 : decode cX1_addSame 29 = .ok (.iconst 1, 1) := by decide +kernel
theorem dX1_addSame_30 : decode cX1_addSame 30 = .ok (.goto 4, 3) := by decide +kernel
theorem dX1_addSame_33 : decode cX1_addSame 33 = .ok (.iconst 0, 1) := by decide +kernel
theorem dX1_addSame_34 : decode cX1_addSame 34 = .ok (.ireturn, 1) := by decide +kernel
theorem dX1_addPut_0 : decode cX1_addPut 0 = .ok (.aload_n 0, 1) := by decide +kernel
theorem dX1_addPut_1 : decode cX1_addPut 1 = .ok (.getfield 31, 3) := by decide +kernel
theorem dX1_addPut_4 : decode cX1_addPut 4 = .ok (.istore 5, 2) := by decide +kernel
theorem dX1_addPut_6 : decode cX1_addPut 6 = .ok (.aload_n 3, 1) := by decide +kernel
theorem dX1_addPut_7 : decode cX1_addPut 7 = .ok (.iload 4, 2) := by decide +kernel
theorem dX1_addPut_9 : decode cX1_addPut 9 = .ok (.invokevirtual 35, 3) := by decide +kernel
theorem dX1_addPut_12 : decode cX1_addPut 12 = .ok (.ifCond .eq 39, 3) := by decide +kernel
theorem dX1_addPut_15 : decode cX1_addPut 15 = .ok (.aload_n 0, 1) := by decide +kernel
theorem dX1_addPut_16 : decode cX1_addPut 16 = .ok (.iload_n 1, 1) := by decide +kernel
theorem dX1_addPut_17 : decode cX1_addPut 17 = .ok (.aload_n 3, 1) := by decide +kernel
theorem dX1_addPut_18 : decode cX1_addPut 18 = .ok (.getfield 15, 3) := by decide +kernel
theorem dX1_addPut_21 : decode cX1_addPut 21 = .ok (.iload 4, 2) := by decide +kernel
theorem dX1_addPut_23 : decode cX1_addPut 23 = .ok (.iaload, 1) := by decide +kernel
theorem dX1_addPut_24 : decode cX1_addPut 24 = .ok (.aload_n 3, 1) := by decide +kernel
theorem dX1_addPut_25 : decode cX1_addPut 25 = .ok (.getfield 18, 3) := by decide +kernel
theorem dX1_addPut_28 : decode cX1_addPut 28 = .ok (.iload 4, 2) := by decide +kernel
theorem dX1_addPut_30 : decode cX1_addPut 30 = .ok (.iaload, 1) := by decide +kernel
theorem dX1_addPut_31 : decode cX1_addPut 31 = .ok (.aload_n 3, 1) := by decide +kernel
theorem dX1_addPut_32 : decode cX1_addPut 32 = .ok (.getfield 24, 3) := by decide +kernel
theorem dX1_addPut_35 : decode cX1_addPut 35 = .ok (.iload 4, 2) := by decide +kernel
theorem dX1_addPut_37 : decode cX1_addPut 37 = .ok (.iaload, 1) := by decide +kernel
theorem dX1_addPut_38 : decode cX1_addPut 38 = .ok (.aload_n 3, 1) := by decide +kernel
theorem dX1_addPut_39 : decode cX1_addPut 39 = .ok (.getfield 27, 3) := by decide +kernel
theorem dX1_addPut_42 : decode cX1_addPut 42 = .ok (.iload 4, 2) := by decide +kernel
theorem dX1_addPut_44 : decode cX1_addPut 44 = .ok (.baload, 1) := by decide +kernel
theorem dX1_addPut_45 : decode cX1_addPut 45 = .ok (.invokevirtual 43, 3) := by decide +kernel
theorem dX1_addPut_48 : decode cX1_addPut 48 = .ok (.ifCond .ne 5, 3) := by decide +kernel
theorem dX1_addPut_51 : decode cX1_addPut 51 = .ok (.iconst 0, 1) := by decide +kernel
theorem dX1_addPut_52 : decode cX1_addPut 52 = .ok (.ireturn, 1) := by decide +kernel
theorem dX1_addPut_53 : decode cX1_addPut 53 = .ok (.aload_n 0, 1) := by decide +kernel
theorem dX1_addPut_54 : decode cX1_addPut 54 = .ok (.getfield 21, 3) := by decide +kernel
theorem dX1_addPut_57 : decode cX1_addPut 57 = .ok (.iload 5, 2) := by decide +kernel
theorem dX1_addPut_59 : decode cX1_addPut 59 = .ok (.iload_n 2, 1) := by decide +kernel
theorem dX1_addPut_60 : decode cX1_addPut 60 = .ok (.iastore, 1) := by decide +kernel
theorem dX1_addPut_61 : decode cX1_addPut 61 = .ok (.iconst 1, 1) := by decide +kernel
theorem dX1_addPut_62 : decode cX1_addPut 62 = .ok (.ireturn, 1) := by decide +kernel
theorem dX1_addAll_0 : decode cX1_addAll 0 = .ok (.iconst 0, 1) := by decide +kernel
theorem dX1_addAll_1 : decode cX1_addAll 1 = .ok (.istore_n 2, 1) := by decide +kernel
theorem dX1_addAll_2 : decode cX1_addAll 2 = .ok (.iload_n 2, 1) := by decide +kernel
theorem dX1_addAll_3 : decode cX1_addAll 3 = .ok (.aload_n 1, 1) := by decide +kernel
theorem dX1_addAll_4 : decode cX1_addAll 4 = .ok (.getfield 31, 3) := by decide +kernel
theorem dX1_addAll_7 : decode cX1_addAll 7 = .ok (.if_icmp .ge 20, 3) := by decide +kernel
theorem dX1_addAll_10 : decode cX1_addAll 10 = .ok (.aload_n 0, 1) := by decide +kernel
theorem dX1_addAll_11 : decode cX1_addAll 11 = .ok (.aload_n 1, 1) := by decide +kernel
theorem dX1_addAll_12 : decode cX1_addAll 12 = .ok (.iload_n 2, 1) := by decide +kernel
theorem dX1_addAll_13 : decode cX1_addAll 13 = .ok (.invokevirtual 47, 3) := by decide +kernel
theorem dX1_addAll_16 : decode cX1_addAll 16 = .ok (.ifCond .ne 5, 3) := by decide +kernel
theorem dX1_addAll_19 : decode cX1_addAll 19 = .ok (.iconst 0, 1) := by decide +kernel
theorem dX1_addAll_20 : decode cX1_addAll 20 = .ok (.ireturn, 1) := by decide +kernel
theorem dX1_addAll_21 : decode cX1_addAll 21 = .ok (.iinc 2 1, 3) := by decide +kernel
theorem dX1_addAll_24 : decode cX1_addAll 24 = .ok (.goto (-22), 3) := by decide +kernel
theorem dX1_addAll_27 : decode cX1_addAll 27 = .ok (.iconst 1, 1) := by decide +kernel
theorem dX1_addAll_28 : decode cX1_addAll 28 = .ok (.ireturn, 1) := by decide +kernel
theorem dX2_init_0 : decode cX2_init 0 = .ok (.aload_n 0, 1) := by decide +kernel
theorem dX2_init_1 : decode cX2_init 1 = .ok (.invokespecial 3, 3) := by decide +kernel
theorem dX2_init_4 : decode cX2_init 4 = .ok (.aload_n 0, 1) := by decide +kernel
theorem dX2_init_5 : decode cX2_init 5 = .ok (.bipush 8, 2) := by decide +kernel
theorem dX2_init_7 : decode cX2_init 7 = .ok (.anewarray 9, 3) := by decide +kernel
theorem dX2_init_10 : decode cX2_init 10 = .ok (.putfield 11, 3) := by decide +kernel
theorem dX2_init_13 : decode cX2_init 13 = .ok (.aload_n 0, 1) := by decide +kernel
theorem dX2_init_14 : decode cX2_init 14 = .ok (.iload_n 1, 1) := by decide +kernel
theorem dX2_init_15 : decode cX2_init 15 = .ok (.putfield 17, 3) := by decide +kernel
theorem dX2_init_18 : decode cX2_init 18 = .ok (.aload_n 0, 1) := by decide +kernel
theorem dX2_init_19 : decode cX2_init 19 = .ok (.iload_n 2, 1) := by decide +kernel
theorem dX2_init_20 : decode cX2_init 20 = .ok (.putfield 21, 3) := by decide +kernel
theorem dX2_init_23 : decode cX2_init 23 = .ok (.aload_n 0, 1) := by decide +kernel
theorem dX2_init_24 : decode cX2_init 24 = .ok (.iload_n 3, 1) := by decide +kernel
theorem dX2_init_25 : decode cX2_init 25 = .ok (.putfield 25, 3) := by decide +kernel
theorem dX2_init_28 : decode cX2_init 28 = .ok (.aload_n 0, 1) := by decide +kernel
theorem dX2_init_29 : decode cX2_init 29 = .ok (.iload 4, 2) := by decide +kernel
theorem dX2_init_31 : decode cX2_init 31 = .ok (.putfield 28, 3) := by decide +kernel
theorem dX2_init_34 : decode cX2_init 34 = .ok (.return_, 1) := by decide +kernel
theorem dX2_append_0 : decode cX2_append 0 = .ok (.aload_n 0, 1) := by decide +kernel
theorem dX2_append_1 : decode cX2_append 1 = .ok (.getfield 31, 3) := by decide +kernel
theorem dX2_append_4 : decode cX2_append 4 = .ok (.aload_n 0, 1) := by decide +kernel
theorem dX2_append_5 : decode cX2_append 5 = .ok (.getfield 11, 3) := by decide +kernel
theorem dX2_append_8 : decode cX2_append 8 = .ok (.arraylength, 1) := by decide +kernel
theorem dX2_append_9 : decode cX2_append 9 = .ok (.if_icmp .ge 23, 3) := by decide +kernel
theorem dX2_append_12 : decode cX2_append 12 = .ok (.aload_n 0, 1) := by decide +kernel
theorem dX2_append_13 : decode cX2_append 13 = .ok (.getfield 11, 3) := by decide +kernel
theorem dX2_append_16 : decode cX2_append 16 = .ok (.aload_n 0, 1) := by decide +kernel
theorem dX2_append_17 : decode cX2_append 17 = .ok (.getfield 31, 3) := by decide +kernel
theorem dX2_append_20 : decode cX2_append 20 = .ok (.aload_n 1, 1) := by decide +kernel
theorem dX2_append_21 : decode cX2_append 21 = .ok (.aastore, 1) := by decide +kernel
theorem dX2_append_22 : decode cX2_append 22 = .ok (.aload_n 0, 1) := by decide +kernel
theorem dX2_append_23 : decode cX2_append 23 = .ok (.dup, 1) := by decide +kernel
theorem dX2_append_24 : decode cX2_append 24 = .ok (.getfield 31, 3) := by decide +kernel
theorem dX2_append_27 : decode cX2_append 27 = .ok (.iconst 1, 1) := by decide +kernel
theorem dX2_append_28 : decode cX2_append 28 = .ok (.iadd, 1) := by decide +kernel
theorem dX2_append_29 : decode cX2_append 29 = .ok (.putfield 31, 3) := by decide +kernel
theorem dX2_append_32 : decode cX2_append 32 = .ok (.return_, 1) := by decide +kernel
theorem dX2_get_0 : decode cX2_get 0 = .ok (.iload_n 1, 1) := by decide +kernel
theorem dX2_get_1 : decode cX2_get 1 = .ok (.ifCond .lt 20, 3) := by decide +kernel
theorem dX2_get_4 : decode cX2_get 4 = .ok (.iload_n 1, 1) := by decide +kernel
theorem dX2_get_5 : decode cX2_get 5 = .ok (.aload_n 0, 1) := by decide +kernel
theorem dX2_get_6 : decode cX2_get 6 = .ok (.getfield 31, 3) := by decide +kernel
theorem dX2_get_9 : decode cX2_get 9 = .ok (.if_icmp .ge 12, 3) := by decide +kernel
theorem dX2_get_12 : decode cX2_get 12 = .ok (.aload_n 0, 1) := by decide +kernel
theorem dX2_get_13 : decode cX2_get 13 = .ok (.getfield 11, 3) := by decide +kernel
theorem dX2_get_16 : decode cX2_get 16 = .ok (.iload_n 1, 1) := by decide +kernel
theorem dX2_get_17 : decode cX2_get 17 = .ok (.aaload, 1) := by decide +kernel
theorem dX2_get_18 : decode cX2_get 18 = .ok (.goto 4, 3) := by decide +kernel
theorem dX2_get_21 : decode cX2_get 21 = .ok (.aconst_null, 1) := by decide +kernel
theorem dX2_get_22 : decode cX2_get 22 = .ok (.areturn, 1) := by decide +kernel
theorem dX3_init_0 : decode cX3_init 0 = .ok (.aload_n 0, 1) := by decide +kernel
theorem dX3_init_1 : decode cX3_init 1 = .ok (.invokespecial 3, 3) := by decide +kernel
theorem dX3_init_4 : decode cX3_init 4 = .ok (.aload_n 0, 1) := by decide +kernel
theorem dX3_init_5 : decode cX3_init 5 = .ok (.new 9, 3) := by decide +kernel
theorem dX3_init_8 : decode cX3_init 8 = .ok (.dup, 1) := by decide +kernel
theorem dX3_init_9 : decode cX3_init 9 = .ok (.invokespecial 11, 3) := by decide +kernel
theorem dX3_init_12 : decode cX3_init 12 = .ok (.putfield 12, 3) := by decide +kernel
theorem dX3_init_15 : decode cX3_init 15 = .ok (.aload_n 0, 1) := by decide +kernel
theorem dX3_init_16 : decode cX3_init 16 = .ok (.sipush 200, 3) := by decide +kernel
theorem dX3_init_19 : decode cX3_init 19 = .ok (.newarray .int, 2) := by decide +kernel
theorem dX3_init_21 : decode cX3_init 21 = .ok (.putfield 18, 3) := by decide +kernel
theorem dX3_init_24 : decode cX3_init 24 = .ok (.aload_n 0, 1) := by decide +kernel
theorem dX3_init_25 : decode cX3_init 25 = .ok (.iload_n 1, 1) := by decide +kernel
theorem dX3_init_26 : decode cX3_init 26 = .ok (.putfield 22, 3) := by decide +kernel
theorem dX3_init_29 : decode cX3_init 29 = .ok (.aload_n 0, 1) := by decide +kernel
theorem dX3_init_30 : decode cX3_init 30 = .ok (.iload_n 2, 1) := by decide +kernel
theorem dX3_init_31 : decode cX3_init 31 = .ok (.putfield 26, 3) := by decide +kernel
theorem dX3_init_34 : decode cX3_init 34 = .ok (.return_, 1) := by decide +kernel
theorem dX3_append_0 : decode cX3_append 0 = .ok (.aload_n 0, 1) := by decide +kernel
theorem dX3_append_1 : decode cX3_append 1 = .ok (.getfield 29, 3) := by decide +kernel
theorem dX3_append_4 : decode cX3_append 4 = .ok (.aload_n 0, 1) := by decide +kernel
theorem dX3_append_5 : decode cX3_append 5 = .ok (.getfield 18, 3) := by decide +kernel
theorem dX3_append_8 : decode cX3_append 8 = .ok (.arraylength, 1) := by decide +kernel
theorem dX3_append_9 : decode cX3_append 9 = .ok (.if_icmp .lt 5, 3) := by decide +kernel
theorem dX3_append_12 : decode cX3_append 12 = .ok (.iconst 0, 1) := by decide +kernel
theorem dX3_append_13 : decode cX3_append 13 = .ok (.ireturn, 1) := by decide +kernel
theorem dX3_append_14 : decode cX3_append 14 = .ok (.aload_n 0, 1) := by decide +kernel
theorem dX3_append_15 : decode cX3_append 15 = .ok (.getfield 18, 3) := by decide +kernel
theorem dX3_append_18 : decode cX3_append 18 = .ok (.aload_n 0, 1) := by decide +kernel
theorem dX3_append_19 : decode cX3_append 19 = .ok (.getfield 29, 3) := by decide +kernel
theorem dX3_append_22 : decode cX3_append 22 = .ok (.iload_n 1, 1) := by decide +kernel
theorem dX3_append_23 : decode cX3_append 23 = .ok (.iastore, 1) := by decide +kernel
theorem dX3_append_24 : decode cX3_append 24 = .ok (.aload_n 0, 1) := by decide +kernel
theorem dX3_append_25 : decode cX3_append 25 = .ok (.dup, 1) := by decide +kernel
theorem dX3_append_26 : decode cX3_append 26 = .ok (.getfield 29, 3) := by decide +kernel
theorem dX3_append_29 : decode cX3_append 29 = .ok (.iconst 1, 1) := by decide +kernel
theorem dX3_append_30 : decode cX3_append 30 = .ok (.iadd, 1) := by decide +kernel
theorem dX3_append_31 : decode cX3_append 31 = .ok (.putfield 29, 3) := by decide +kernel
theorem dX3_append_34 : decode cX3_append 34 = .ok (.iconst 1, 1) := by decide +kernel
theorem dX3_append_35 : decode cX3_append 35 = .ok (.ireturn, 1) := by decide +kernel
theorem dX3_entry_0 : decode cX3_entry 0 = .ok (.iload_n 1, 1) := by decide +kernel
theorem dX3_entry_1 : decode cX3_entry 1 = .ok (.ifCond .lt 20, 3) := by decide +kernel
theorem dX3_entry_4 : decode cX3_entry 4 = .ok (.iload_n 1, 1) := by decide +kernel
theorem dX3_entry_5 : decode cX3_entry 5 = .ok (.aload_n 0, 1) := by decide +kernel
theorem dX3_entry_6 : decode cX3_entry 6 = .ok (.getfield 29, 3) := by decide +kernel
theorem dX3_entry_9 : decode cX3_entry 9 = .ok (.if_icmp .ge 12, 3) := by decide +kernel
theorem dX3_entry_12 : decode cX3_entry 12 = .ok (.aload_n 0, 1) := by decide +kernel
theorem dX3_entry_13 : decode cX3_entry 13 = .ok (.getfield 18, 3) := by decide +kernel
theorem dX3_entry_16 : decode cX3_entry 16 = .ok (.iload_n 1, 1) := by decide +kernel
theorem dX3_entry_17 : decode cX3_entry 17 = .ok (.iaload, 1) := by decide +kernel
theorem dX3_entry_18 : decode cX3_entry 18 = .ok (.goto 4, 3) := by decide +kernel
theorem dX3_entry_21 : decode cX3_entry 21 = .ok (.iconst (-1), 1) := by decide +kernel
theorem dX3_entry_22 : decode cX3_entry 22 = .ok (.ireturn, 1) := by decide +kernel
theorem dX4_init_0 : decode cX4_init 0 = .ok (.aload_n 0, 1) := by decide +kernel
theorem dX4_init_1 : decode cX4_init 1 = .ok (.invokespecial 3, 3) := by decide +kernel
theorem dX4_init_4 : decode cX4_init 4 = .ok (.aload_n 0, 1) := by decide +kernel
theorem dX4_init_5 : decode cX4_init 5 = .ok (.bipush 10, 2) := by decide +kernel
theorem dX4_init_7 : decode cX4_init 7 = .ok (.newarray .int, 2) := by decide +kernel
theorem dX4_init_9 : decode cX4_init 9 = .ok (.putfield 9, 3) := by decide +kernel
theorem dX4_init_12 : decode cX4_init 12 = .ok (.return_, 1) := by decide +kernel
theorem dX4_isFull_0 : decode cX4_isFull 0 = .ok (.aload_n 0, 1) := by decide +kernel
theorem dX4_isFull_1 : decode cX4_isFull 1 = .ok (.getfield 15, 3) := by decide +kernel
theorem dX4_isFull_4 : decode cX4_isFull 4 = .ok (.aload_n 0, 1) := by decide +kernel
theorem dX4_isFull_5 : decode cX4_isFull 5 = .ok (.getfield 9, 3) := by decide +kernel
theorem dX4_isFull_8 : decode cX4_isFull 8 = .ok (.arraylength, 1) := by decide +kernel
theorem dX4_isFull_9 : decode cX4_isFull 9 = .ok (.if_icmp .lt 7, 3) := by decide +kernel
theorem dX4_isFull_12 : decode cX4_isFull 12 = .ok (.iconst 1, 1) := by decide +kernel
theorem dX4_isFull_13 : decode cX4_isFull 13 = .ok (.goto 4, 3) := by decide +kernel
theorem dX4_isFull_16 : decode cX4_isFull 16 = .ok (.iconst 0, 1) := by decide +kernel
theorem dX4_isFull_17 : decode cX4_isFull 17 = .ok (.ireturn, 1) := by decide +kernel
theorem dX4_append_0 : decode cX4_append 0 = .ok (.aload_n 0, 1) := by decide +kernel
theorem dX4_append_1 : decode cX4_append 1 = .ok (.invokevirtual 19, 3) := by decide +kernel
theorem dX4_append_4 : decode cX4_append 4 = .ok (.ifCond .ne 23, 3) := by decide +kernel
theorem dX4_append_7 : decode cX4_append 7 = .ok (.aload_n 0, 1) := by decide +kernel
theorem dX4_append_8 : decode cX4_append 8 = .ok (.getfield 9, 3) := by decide +kernel
theorem dX4_append_11 : decode cX4_append 11 = .ok (.aload_n 0, 1) := by decide +kernel
theorem dX4_append_12 : decode cX4_append 12 = .ok (.getfield 15, 3) := by decide +kernel
theorem dX4_append_15 : decode cX4_append 15 = .ok (.iload_n 1, 1) := by decide +kernel
theorem dX4_append_16 : decode cX4_append 16 = .ok (.iastore, 1) := by decide +kernel
theorem dX4_append_17 : decode cX4_append 17 = .ok (.aload_n 0, 1) := by decide +kernel
theorem dX4_append_18 : decode cX4_append 18 = .ok (.dup, 1) := by decide +kernel
theorem dX4_append_19 : decode cX4_append 19 = .ok (.getfield 15, 3) := by decide +kernel
theorem dX4_append_22 : decode cX4_append 22 = .ok (.iconst 1, 1) := by decide +kernel
theorem dX4_append_23 : decode cX4_append 23 = .ok (.iadd, 1) := by decide +kernel
theorem dX4_append_24 : decode cX4_append 24 = .ok (.putfield 15, 3) := by decide +kernel
theorem dX4_append_27 : decode cX4_append 27 = .ok (.return_, 1) := by decide +kernel
theorem dX4_get_0 : decode cX4_get 0 = .ok (.iload_n 1, 1) := by decide +kernel
theorem dX4_get_1 : decode cX4_get 1 = .ok (.ifCond .lt 20, 3) := by decide +kernel
theorem dX4_get_4 : decode cX4_get 4 = .ok (.iload_n 1, 1) := by decide +kernel
theorem dX4_get_5 : decode cX4_get 5 = .ok (.aload_n 0, 1) := by decide +kernel
theorem dX4_get_6 : decode cX4_get 6 = .ok (.getfield 15, 3) := by decide +kernel
theorem dX4_get_9 : decode cX4_get 9 = .ok (.if_icmp .ge 12, 3) := by decide +kernel
theorem dX4_get_12 : decode cX4_get 12 = .ok (.aload_n 0, 1) := by decide +kernel
theorem dX4_get_13 : decode cX4_get 13 = .ok (.getfield 9, 3) := by decide +kernel
theorem dX4_get_16 : decode cX4_get 16 = .ok (.iload_n 1, 1) := by decide +kernel
theorem dX4_get_17 : decode cX4_get 17 = .ok (.iaload, 1) := by decide +kernel
theorem dX4_get_18 : decode cX4_get 18 = .ok (.goto 4, 3) := by decide +kernel
theorem dX4_get_21 : decode cX4_get 21 = .ok (.iconst 0, 1) := by decide +kernel
theorem dX4_get_22 : decode cX4_get 22 = .ok (.ireturn, 1) := by decide +kernel
theorem dX5_init_0 : decode cX5_init 0 = .ok (.aload_n 0, 1) := by decide +kernel
theorem dX5_init_1 : decode cX5_init 1 = .ok (.invokespecial 1, 3) := by decide +kernel
theorem dX5_init_4 : decode cX5_init 4 = .ok (.aload_n 0, 1) := by decide +kernel
theorem dX5_init_5 : decode cX5_init 5 = .ok (.bipush 13, 2) := by decide +kernel
theorem dX5_init_7 : decode cX5_init 7 = .ok (.anewarray 9, 3) := by decide +kernel
theorem dX5_init_10 : decode cX5_init 10 = .ok (.putfield 11, 3) := by decide +kernel
theorem dX5_init_13 : decode cX5_init 13 = .ok (.aload_n 0, 1) := by decide +kernel
theorem dX5_init_14 : decode cX5_init 14 = .ok (.bipush 60, 2) := by decide +kernel
theorem dX5_init_16 : decode cX5_init 16 = .ok (.anewarray 15, 3) := by decide +kernel
theorem dX5_init_19 : decode cX5_init 19 = .ok (.putfield 17, 3) := by decide +kernel
theorem dX5_init_22 : decode cX5_init 22 = .ok (.aload_n 0, 1) := by decide +kernel
theorem dX5_init_23 : decode cX5_init 23 = .ok (.bipush 100, 2) := by decide +kernel
theorem dX5_init_25 : decode cX5_init 25 = .ok (.anewarray 21, 3) := by decide +kernel
theorem dX5_init_28 : decode cX5_init 28 = .ok (.putfield 23, 3) := by decide +kernel
theorem dX5_init_31 : decode cX5_init 31 = .ok (.aload_n 0, 1) := by decide +kernel
theorem dX5_init_32 : decode cX5_init 32 = .ok (.bipush 13, 2) := by decide +kernel
theorem dX5_init_34 : decode cX5_init 34 = .ok (.anewarray 9, 3) := by decide +kernel
theorem dX5_init_37 : decode cX5_init 37 = .ok (.putfield 27, 3) := by decide +kernel
theorem dX5_init_40 : decode cX5_init 40 = .ok (.aload_n 0, 1) := by decide +kernel
theorem dX5_init_41 : decode cX5_init 41 = .ok (.new 30, 3) := by decide +kernel
theorem dX5_init_44 : decode cX5_init 44 = .ok (.dup, 1) := by decide +kernel
theorem dX5_init_45 : decode cX5_init 45 = .ok (.invokespecial 32, 3) := by decide +kernel
theorem dX5_init_48 : decode cX5_init 48 = .ok (.putfield 33, 3) := by decide +kernel
theorem dX5_init_51 : decode cX5_init 51 = .ok (.aload_n 0, 1) := by decide +kernel
theorem dX5_init_52 : decode cX5_init 52 = .ok (.new 30, 3) := by decide +kernel
theorem dX5_init_55 : decode cX5_init 55 = .ok (.dup, 1) := by decide +kernel
theorem dX5_init_56 : decode cX5_init 56 = .ok (.invokespecial 32, 3) := by decide +kernel
theorem dX5_init_59 : decode cX5_init 59 = .ok (.putfield 37, 3) := by decide +kernel
theorem dX5_init_62 : decode cX5_init 62 = .ok (.aload_n 0, 1) := by decide +kernel
theorem dX5_init_63 : decode cX5_init 63 = .ok (.bipush 13, 2) := by decide +kernel
theorem dX5_init_65 : decode cX5_init 65 = .ok (.newarray .int, 2) := by decide +kernel
theorem dX5_init_67 : decode cX5_init 67 = .ok (.putfield 40, 3) := by decide +kernel
theorem dX5_init_70 : decode cX5_init 70 = .ok (.aload_n 0, 1) := by decide +kernel
theorem dX5_init_71 : decode cX5_init 71 = .ok (.getfield 11, 3) := by decide +kernel
theorem dX5_init_74 : decode cX5_init 74 = .ok (.iconst 0, 1) := by decide +kernel
theorem dX5_init_75 : decode cX5_init 75 = .ok (.new 9, 3) := by decide +kernel
theorem dX5_init_78 : decode cX5_init 78 = .ok (.dup, 1) := by decide +kernel
theorem dX5_init_79 : decode cX5_init 79 = .ok (.iconst 0, 1) := by decide +kernel
theorem dX5_init_80 : decode cX5_init 80 = .ok (.iconst (-1), 1) := by decide +kernel
theorem dX5_init_81 : decode cX5_init 81 = .ok (.invokespecial 44, 3) := by decide +kernel
theorem dX5_init_84 : decode cX5_init 84 = .ok (.aastore, 1) := by decide +kernel
theorem dX5_init_85 : decode cX5_init 85 = .ok (.aload_n 0, 1) := by decide +kernel
theorem dX5_init_86 : decode cX5_init 86 = .ok (.iconst 1, 1) := by decide +kernel
theorem dX5_init_87 : decode cX5_init 87 = .ok (.putfield 47, 3) := by decide +kernel
theorem dX5_init_90 : decode cX5_init 90 = .ok (.return_, 1) := by decide +kernel
theorem dX5_library_0 : decode cX5_library 0 = .ok (.iload_n 1, 1) := by decide +kernel
theorem dX5_library_1 : decode cX5_library 1 = .ok (.invokestatic 51, 3) := by decide +kernel
theorem dX5_library_4 : decode cX5_library 4 = .ok (.ifCond .ne 6, 3) := by decide +kernel
theorem dX5_library_7 : decode cX5_library 7 = .ok (.bipush (-4), 2) := by decide +kernel
theorem dX5_library_9 : decode cX5_library 9 = .ok (.ireturn, 1) := by decide +kernel
theorem dX5_library_10 : decode cX5_library 10 = .ok (.aload_n 0, 1) := by decide +kernel
theorem dX5_library_11 : decode cX5_library 11 = .ok (.getfield 47, 3) := by decide +kernel
theorem dX5_library_14 : decode cX5_library 14 = .ok (.bipush 12, 2) := by decide +kernel
theorem dX5_library_16 : decode cX5_library 16 = .ok (.if_icmp .le 5, 3) := by decide +kernel
theorem dX5_library_19 : decode cX5_library 19 = .ok (.iconst (-1), 1) := by decide +kernel
theorem dX5_library_20 : decode cX5_library 20 = .ok (.ireturn, 1) := by decide +kernel
theorem dX5_library_21 : decode cX5_library 21 = .ok (.aload_n 0, 1) := by decide +kernel
theorem dX5_library_22 : decode cX5_library 22 = .ok (.getfield 47, 3) := by decide +kernel
theorem dX5_library_25 : decode cX5_library 25 = .ok (.istore_n 2, 1) := by decide +kernel
theorem dX5_library_26 : decode cX5_library 26 = .ok (.aload_n 0, 1) := by decide +kernel
theorem dX5_library_27 : decode cX5_library 27 = .ok (.getfield 11, 3) := by decide +kernel
theorem dX5_library_30 : decode cX5_library 30 = .ok (.iload_n 2, 1) := by decide +kernel
theorem dX5_library_31 : decode cX5_library 31 = .ok (.new 9, 3) := by decide +kernel
theorem dX5_library_34 : decode cX5_library 34 = .ok (.dup, 1) := by decide +kernel
theorem dX5_library_35 : decode cX5_library 35 = .ok (.iload_n 2, 1) := by decide +kernel
theorem dX5_library_36 : decode cX5_library 36 = .ok (.iload_n 1, 1) := by decide +kernel
theorem dX5_library_37 : decode cX5_library 37 = .ok (.invokespecial 44, 3) := by decide +kernel
theorem dX5_library_40 : decode cX5_library 40 = .ok (.aastore, 1) := by decide +kernel
theorem dX5_library_41 : decode cX5_library 41 = .ok (.aload_n 0, 1) := by decide +kernel
theorem dX5_library_42 : decode cX5_library 42 = .ok (.dup, 1) := by decide +kernel
theorem dX5_library_43 : decode cX5_library 43 = .ok (.getfield 47, 3) := by decide +kernel
theorem dX5_library_46 : decode cX5_library 46 = .ok (.iconst 1, 1) := by decide +kernel
theorem dX5_library_47 : decode cX5_library 47 = .ok (.iadd, 1) := by decide +kernel
theorem dX5_library_48 : decode cX5_library 48 = .ok (.putfield 47, 3) := by decide +kernel
theorem dX5_library_51 : decode cX5_library 51 = .ok (.iload_n 2, 1) := by decide +kernel
theorem dX5_library_52 : decode cX5_library 52 = .ok (.ireturn, 1) := by decide +kernel
theorem dX5_word_0 : decode cX5_word 0 = .ok (.aload_n 0, 1) := by decide +kernel
theorem dX5_word_1 : decode cX5_word 1 = .ok (.iload_n 1, 1) := by decide +kernel
theorem dX5_word_2 : decode cX5_word 2 = .ok (.invokevirtual 55, 3) := by decide +kernel
theorem dX5_word_5 : decode cX5_word 5 = .ok (.astore_n 3, 1) := by decide +kernel
theorem dX5_word_6 : decode cX5_word 6 = .ok (.aload_n 3, 1) := by decide +kernel
theorem dX5_word_7 : decode cX5_word 7 = .ok (.ifnonnull 6, 3) := by decide +kernel
theorem dX5_word_10 : decode cX5_word 10 = .ok (.bipush (-2), 2) := by decide +kernel
theorem dX5_word_12 : decode cX5_word 12 = .ok (.ireturn, 1) := by decide +kernel
theorem dX5_word_13 : decode cX5_word 13 = .ok (.iload_n 2, 1) := by decide +kernel
theorem dX5_word_14 : decode cX5_word 14 = .ok (.invokestatic 59, 3) := by decide +kernel
theorem dX5_word_17 : decode cX5_word 17 = .ok (.ifCond .ne 6, 3) := by decide +kernel
theorem dX5_word_20 : decode cX5_word 20 = .ok (.bipush (-4), 2) := by decide +kernel
theorem dX5_word_22 : decode cX5_word 22 = .ok (.ireturn, 1) := by decide +kernel
theorem dX5_word_23 : decode cX5_word 23 = .ok (.aload_n 3, 1) := by decide +kernel
theorem dX5_word_24 : decode cX5_word 24 = .ok (.iload_n 2, 1) := by decide +kernel
theorem dX5_word_25 : decode cX5_word 25 = .ok (.invokevirtual 62, 3) := by decide +kernel
theorem dX5_word_28 : decode cX5_word 28 = .ok (.ifCond .eq 10, 3) := by decide +kernel
theorem dX5_word_31 : decode cX5_word 31 = .ok (.aload_n 3, 1) := by decide +kernel
theorem dX5_word_32 : decode cX5_word 32 = .ok (.getfield 65, 3) := by decide +kernel
theorem dX5_word_35 : decode cX5_word 35 = .ok (.goto 4, 3) := by decide +kernel
theorem dX5_word_38 : decode cX5_word 38 = .ok (.iconst (-1), 1) := by decide +kernel
theorem dX5_word_39 : decode cX5_word 39 = .ok (.ireturn, 1) := by decide +kernel
theorem dX5_copy_0 : decode cX5_copy 0 = .ok (.aload_n 0, 1) := by decide +kernel
theorem dX5_copy_1 : decode cX5_copy 1 = .ok (.iload_n 1, 1) := by decide +kernel
theorem dX5_copy_2 : decode cX5_copy 2 = .ok (.invokevirtual 55, 3) := by decide +kernel
theorem dX5_copy_5 : decode cX5_copy 5 = .ok (.astore 4, 2) := by decide +kernel
theorem dX5_copy_7 : decode cX5_copy 7 = .ok (.aload 4, 2) := by decide +kernel
theorem dX5_copy_9 : decode cX5_copy 9 = .ok (.ifnonnull 6, 3) := by decide +kernel
theorem dX5_copy_12 : decode cX5_copy 12 = .ok (.bipush (-2), 2) := by decide +kernel
theorem dX5_copy_14 : decode cX5_copy 14 = .ok (.ireturn, 1) := by decide +kernel
theorem dX5_copy_15 : decode cX5_copy 15 = .ok (.iload_n 2, 1) := by decide +kernel
theorem dX5_copy_16 : decode cX5_copy 16 = .ok (.invokestatic 51, 3) := by decide +kernel
theorem dX5_copy_19 : decode cX5_copy 19 = .ok (.ifCond .ne 6, 3) := by decide +kernel
theorem dX5_copy_22 : decode cX5_copy 22 = .ok (.bipush (-4), 2) := by decide +kernel
theorem dX5_copy_24 : decode cX5_copy 24 = .ok (.ireturn, 1) := by decide +kernel
theorem dX5_copy_25 : decode cX5_copy 25 = .ok (.aload_n 0, 1) := by decide +kernel
theorem dX5_copy_26 : decode cX5_copy 26 = .ok (.aload 4, 2) := by decide +kernel
theorem dX5_copy_28 : decode cX5_copy 28 = .ok (.iconst 1, 1) := by decide +kernel
theorem dX5_copy_29 : decode cX5_copy 29 = .ok (.iload_n 2, 1) := by decide +kernel
theorem dX5_copy_30 : decode cX5_copy 30 = .ok (.iload_n 3, 1) := by decide +kernel
theorem dX5_copy_31 : decode cX5_copy 31 = .ok (.invokevirtual 68, 3) := by decide +kernel
theorem dX5_copy_34 : decode cX5_copy 34 = .ok (.ireturn, 1) := by decide +kernel
theorem dX5_replace_0 : decode cX5_replace 0 = .ok (.aload_n 0, 1) := by decide +kernel
theorem dX5_replace_1 : decode cX5_replace 1 = .ok (.iload_n 1, 1) := by decide +kernel
theorem dX5_replace_2 : decode cX5_replace 2 = .ok (.invokevirtual 55, 3) := by decide +kernel
theorem dX5_replace_5 : decode cX5_replace 5 = .ok (.astore_n 2, 1) := by decide +kernel
theorem dX5_replace_6 : decode cX5_replace 6 = .ok (.aload_n 2, 1) := by decide +kernel
theorem dX5_replace_7 : decode cX5_replace 7 = .ok (.ifnonnull 8, 3) := by decide +kernel
theorem dX5_replace_10 : decode cX5_replace 10 = .ok (.bipush (-2), 2) := by decide +kernel
theorem dX5_replace_12 : decode cX5_replace 12 = .ok (.goto 11, 3) := by decide +kernel
theorem dX5_replace_15 : decode cX5_replace 15 = .ok (.aload_n 0, 1) := by decide +kernel
theorem dX5_replace_16 : decode cX5_replace 16 = .ok (.aload_n 2, 1) := by decide +kernel
theorem dX5_replace_17 : decode cX5_replace 17 = .ok (.iconst 0, 1) := by decide +kernel
theorem dX5_replace_18 : decode cX5_replace 18 = .ok (.iconst (-1), 1) := by decide +kernel
theorem dX5_replace_19 : decode cX5_replace 19 = .ok (.iconst 0, 1) := by decide +kernel
theorem dX5_replace_20 : decode cX5_replace 20 = .ok (.invokevirtual 68, 3) := by decide +kernel
theorem dX5_replace_23 : decode cX5_replace 23 = .ok (.ireturn, 1) := by decide +kernel
theorem dX5_off_0 : decode cX5_off 0 = .ok (.aload_n 0, 1) := by decide +kernel
theorem dX5_off_1 : decode cX5_off 1 = .ok (.iload_n 1, 1) := by decide +kernel
theorem dX5_off_2 : decode cX5_off 2 = .ok (.invokevirtual 55, 3) := by decide +kernel
theorem dX5_off_5 : decode cX5_off 5 = .ok (.astore_n 2, 1) := by decide +kernel
theorem dX5_off_6 : decode cX5_off 6 = .ok (.aload_n 2, 1) := by decide +kernel
theorem dX5_off_7 : decode cX5_off 7 = .ok (.ifnonnull 6, 3) := by decide +kernel
theorem dX5_off_10 : decode cX5_off 10 = .ok (.bipush (-2), 2) := by decide +kernel
theorem dX5_off_12 : decode cX5_off 12 = .ok (.ireturn, 1) := by decide +kernel
theorem dX5_off_13 : decode cX5_off 13 = .ok (.aload_n 2, 1) := by decide +kernel
theorem dX5_off_14 : decode cX5_off 14 = .ok (.bipush (-2), 2) := by decide +kernel
theorem dX5_off_16 : decode cX5_off 16 = .ok (.invokevirtual 62, 3) := by decide +kernel
theorem dX5_off_19 : decode cX5_off 19 = .ok (.ifCond .eq 10, 3) := by decide +kernel
theorem dX5_off_22 : decode cX5_off 22 = .ok (.aload_n 2, 1) := by decide +kernel
theorem dX5_off_23 : decode cX5_off 23 = .ok (.getfield 65, 3) := by decide +kernel
theorem dX5_off_26 : decode cX5_off 26 = .ok (.goto 4, 3) := by decide +kernel
theorem dX5_off_29 : decode cX5_off 29 = .ok (.iconst (-1), 1) := by decide +kernel
theorem dX5_off_30 : decode cX5_off 30 = .ok (.ireturn, 1) := by decide +kernel
theorem dX5_phrase_0 : decode cX5_phrase 0 = .ok (.aload_n 0, 1) := by decide +kernel
theorem dX5_phrase_1 : decode cX5_phrase 1 = .ok (.iload_n 1, 1) := by decide +kernel
theorem dX5_phrase_2 : decode cX5_phrase 2 = .ok (.invokevirtual 72, 3) := by decide +kernel
theorem dX5_phrase_5 : decode cX5_phrase 5 = .ok (.astore 4, 2) := by decide +kernel
theorem dX5_phrase_7 : decode cX5_phrase 7 = .ok (.aload 4, 2) := by decide +kernel
theorem dX5_phrase_9 : decode cX5_phrase 9 = .ok (.ifnonnull 6, 3) := by decide +kernel
theorem dX5_phrase_12 : decode cX5_phrase 12 = .ok (.bipush (-2), 2) := by decide +kernel
theorem dX5_phrase_14 : decode cX5_phrase 14 = .ok (.ireturn, 1) := by decide +kernel
theorem dX5_phrase_15 : decode cX5_phrase 15 = .ok (.iload_n 2, 1) := by decide +kernel
theorem dX5_phrase_16 : decode cX5_phrase 16 = .ok (.ifCond .lt 15, 3) := by decide +kernel
theorem dX5_phrase_19 : decode cX5_phrase 19 = .ok (.iload_n 2, 1) := by decide +kernel
theorem dX5_phrase_20 : decode cX5_phrase 20 = .ok (.iconst 2, 1) := by decide +kernel
theorem dX5_phrase_21 : decode cX5_phrase 21 = .ok (.if_icmp .gt 10, 3) := by decide +kernel
theorem dX5_phrase_24 : decode cX5_phrase 24 = .ok (.iload_n 3, 1) := by decide +kernel
theorem dX5_phrase_25 : decode cX5_phrase 25 = .ok (.invokestatic 76, 3) := by decide +kernel
theorem dX5_phrase_28 : decode cX5_phrase 28 = .ok (.ifCond .ne 6, 3) := by decide +kernel
theorem dX5_phrase_31 : decode cX5_phrase 31 = .ok (.bipush (-4), 2) := by decide +kernel
theorem dX5_phrase_33 : decode cX5_phrase 33 = .ok (.ireturn, 1) := by decide +kernel
theorem dX5_phrase_34 : decode cX5_phrase 34 = .ok (.aload_n 0, 1) := by decide +kernel
theorem dX5_phrase_35 : decode cX5_phrase 35 = .ok (.getfield 79, 3) := by decide +kernel
theorem dX5_phrase_38 : decode cX5_phrase 38 = .ok (.bipush 100, 2) := by decide +kernel
theorem dX5_phrase_40 : decode cX5_phrase 40 = .ok (.if_icmp .ge 13, 3) := by decide +kernel
theorem dX5_phrase_43 : decode cX5_phrase 43 = .ok (.aload 4, 2) := by decide +kernel
theorem dX5_phrase_45 : decode cX5_phrase 45 = .ok (.getfield 82, 3) := by decide +kernel
theorem dX5_phrase_48 : decode cX5_phrase 48 = .ok (.bipush 8, 2) := by decide +kernel
theorem dX5_phrase_50 : decode cX5_phrase 50 = .ok (.if_icmp .lt 5, 3) := by decide +kernel
theorem dX5_phrase_53 : decode cX5_phrase 53 = .ok (.iconst (-1), 1) := by decide +kernel
theorem dX5_phrase_54 : decode cX5_phrase 54 = .ok (.ireturn, 1) := by decide +kernel
theorem dX5_phrase_55 : decode cX5_phrase 55 = .ok (.new 21, 3) := by decide +kernel
theorem dX5_phrase_58 : decode cX5_phrase 58 = .ok (.dup, 1) := by decide +kernel
theorem dX5_phrase_59 : decode cX5_phrase 59 = .ok (.aload_n 0, 1) := by decide +kernel
theorem dX5_phrase_60 : decode cX5_phrase 60 = .ok (.getfield 79, 3) := by decide +kernel
theorem dX5_phrase_63 : decode cX5_phrase 63 = .ok (.iconst 1, 1) := by decide +kernel
theorem dX5_phrase_64 : decode cX5_phrase 64 = .ok (.iadd, 1) := by decide +kernel
theorem dX5_phrase_65 : decode cX5_phrase 65 = .ok (.iload_n 2, 1) := by decide +kernel
theorem dX5_phrase_66 : decode cX5_phrase 66 = .ok (.invokespecial 83, 3) := by decide +kernel
theorem dX5_phrase_69 : decode cX5_phrase 69 = .ok (.astore 5, 2) := by decide +kernel
theorem dX5_phrase_71 : decode cX5_phrase 71 = .ok (.aload 5, 2) := by decide +kernel
theorem dX5_phrase_73 : decode cX5_phrase 73 = .ok (.getfield 84, 3) := by decide +kernel
theorem dX5_phrase_76 : decode cX5_phrase 76 = .ok (.iload_n 3, 1) := by decide +kernel
theorem dX5_phrase_77 : decode cX5_phrase 77 = .ok (.invokevirtual 88, 3) := by decide +kernel
theorem dX5_phrase_80 : decode cX5_phrase 80 = .ok (.aload 4, 2) := by decide +kernel
theorem dX5_phrase_82 : decode cX5_phrase 82 = .ok (.aload 5, 2) := by decide +kernel
theorem dX5_phrase_84 : decode cX5_phrase 84 = .ok (.invokevirtual 93, 3) := by decide +kernel
theorem dX5_phrase_87 : decode cX5_phrase 87 = .ok (.aload_n 0, 1) := by decide +kernel
theorem dX5_phrase_88 : decode cX5_phrase 88 = .ok (.getfield 23, 3) := by decide +kernel
theorem dX5_phrase_91 : decode cX5_phrase 91 = .ok (.aload_n 0, 1) := by decide +kernel
theorem dX5_phrase_92 : decode cX5_phrase 92 = .ok (.getfield 79, 3) := by decide +kernel
theorem dX5_phrase_95 : decode cX5_phrase 95 = .ok (.aload 5, 2) := by decide +kernel
theorem dX5_phrase_97 : decode cX5_phrase 97 = .ok (.aastore, 1) := by decide +kernel
theorem dX5_phrase_98 : decode cX5_phrase 98 = .ok (.aload_n 0, 1) := by decide +kernel
theorem dX5_phrase_99 : decode cX5_phrase 99 = .ok (.dup, 1) := by decide +kernel
theorem dX5_phrase_100 : decode cX5_phrase 100 = .ok (.getfield 79, 3) := by decide +kernel
theorem dX5_phrase_103 : decode cX5_phrase 103 = .ok (.iconst 1, 1) := by decide +kernel
theorem dX5_phrase_104 : decode cX5_phrase 104 = .ok (.iadd, 1) := by decide +kernel
theorem dX5_phrase_105 : decode cX5_phrase 105 = .ok (.putfield 79, 3) := by decide +kernel
theorem dX5_phrase_108 : decode cX5_phrase 108 = .ok (.aload 5, 2) := by decide +kernel
theorem dX5_phrase_110 : decode cX5_phrase 110 = .ok (.getfield 96, 3) := by decide +kernel
theorem dX5_phrase_113 : decode cX5_phrase 113 = .ok (.ireturn, 1) := by decide +kernel
theorem dX5_from_0 : decode cX5_from 0 = .ok (.aload_n 0, 1) := by decide +kernel
theorem dX5_from_1 : decode cX5_from 1 = .ok (.iload_n 1, 1) := by decide +kernel
theorem dX5_from_2 : decode cX5_from 2 = .ok (.invokevirtual 99, 3) := by decide +kernel
theorem dX5_from_5 : decode cX5_from 5 = .ok (.astore_n 3, 1) := by decide +kernel
theorem dX5_from_6 : decode cX5_from 6 = .ok (.aload_n 3, 1) := by decide +kernel
theorem dX5_from_7 : decode cX5_from 7 = .ok (.ifnonnull 6, 3) := by decide +kernel
theorem dX5_from_10 : decode cX5_from 10 = .ok (.bipush (-2), 2) := by decide +kernel
theorem dX5_from_12 : decode cX5_from 12 = .ok (.ireturn, 1) := by decide +kernel
theorem dX5_from_13 : decode cX5_from 13 = .ok (.iload_n 2, 1) := by decide +kernel
theorem dX5_from_14 : decode cX5_from 14 = .ok (.invokestatic 59, 3) := by decide +kernel
theorem dX5_from_17 : decode cX5_from 17 = .ok (.ifCond .ne 6, 3) := by decide +kernel
theorem dX5_from_20 : decode cX5_from 20 = .ok (.bipush (-4), 2) := by decide +kernel
theorem dX5_from_22 : decode cX5_from 22 = .ok (.ireturn, 1) := by decide +kernel
theorem dX5_from_23 : decode cX5_from 23 = .ok (.aload_n 3, 1) := by decide +kernel
theorem dX5_from_24 : decode cX5_from 24 = .ok (.getfield 103, 3) := by decide +kernel
theorem dX5_from_27 : decode cX5_from 27 = .ok (.ifCond .ne 13, 3) := by decide +kernel
theorem dX5_from_30 : decode cX5_from 30 = .ok (.aload_n 3, 1) := by decide +kernel
theorem dX5_from_31 : decode cX5_from 31 = .ok (.getfield 84, 3) := by decide +kernel
theorem dX5_from_34 : decode cX5_from 34 = .ok (.invokevirtual 106, 3) := by decide +kernel
theorem dX5_from_37 : decode cX5_from 37 = .ok (.ifCond .eq 5, 3) := by decide +kernel
theorem dX5_from_40 : decode cX5_from 40 = .ok (.iconst (-1), 1) := by decide +kernel
theorem dX5_from_41 : decode cX5_from 41 = .ok (.ireturn, 1) := by decide +kernel
theorem dX5_from_42 : decode cX5_from 42 = .ok (.iload_n 2, 1) := by decide +kernel
theorem dX5_from_43 : decode cX5_from 43 = .ok (.ifCond .le 11, 3) := by decide +kernel
theorem dX5_from_46 : decode cX5_from 46 = .ok (.aload_n 3, 1) := by decide +kernel
theorem dX5_from_47 : decode cX5_from 47 = .ok (.getfield 84, 3) := by decide +kernel
theorem dX5_from_50 : decode cX5_from 50 = .ok (.iload_n 2, 1) := by decide +kernel
theorem dX5_from_51 : decode cX5_from 51 = .ok (.invokevirtual 88, 3) := by decide +kernel
theorem dX5_from_54 : decode cX5_from 54 = .ok (.aload_n 3, 1) := by decide +kernel
theorem dX5_from_55 : decode cX5_from 55 = .ok (.getfield 84, 3) := by decide +kernel
theorem dX5_from_58 : decode cX5_from 58 = .ok (.getfield 110, 3) := by decide +kernel
theorem dX5_from_61 : decode cX5_from 61 = .ok (.ireturn, 1) := by decide +kernel
theorem dX5_to_0 : decode cX5_to 0 = .ok (.aload_n 0, 1) := by decide +kernel
theorem dX5_to_1 : decode cX5_to 1 = .ok (.iload_n 1, 1) := by decide +kernel
theorem dX5_to_2 : decode cX5_to 2 = .ok (.invokevirtual 99, 3) := by decide +kernel
theorem dX5_to_5 : decode cX5_to 5 = .ok (.astore_n 3, 1) := by decide +kernel
theorem dX5_to_6 : decode cX5_to 6 = .ok (.aload_n 3, 1) := by decide +kernel
theorem dX5_to_7 : decode cX5_to 7 = .ok (.ifnonnull 6, 3) := by decide +kernel
theorem dX5_to_10 : decode cX5_to 10 = .ok (.bipush (-2), 2) := by decide +kernel
theorem dX5_to_12 : decode cX5_to 12 = .ok (.ireturn, 1) := by decide +kernel
theorem dX5_to_13 : decode cX5_to 13 = .ok (.aload_n 3, 1) := by decide +kernel
theorem dX5_to_14 : decode cX5_to 14 = .ok (.getfield 103, 3) := by decide +kernel
theorem dX5_to_17 : decode cX5_to 17 = .ok (.ifCond .eq 7, 3) := by decide +kernel
theorem dX5_to_20 : decode cX5_to 20 = .ok (.iconst 1, 1) := by decide +kernel
theorem dX5_to_21 : decode cX5_to 21 = .ok (.goto 4, 3) := by decide +kernel
theorem dX5_to_24 : decode cX5_to 24 = .ok (.iconst 0, 1) := by decide +kernel
theorem dX5_to_25 : decode cX5_to 25 = .ok (.istore 4, 2) := by decide +kernel
theorem dX5_to_27 : decode cX5_to 27 = .ok (.iload 4, 2) := by decide +kernel
theorem dX5_to_29 : decode cX5_to 29 = .ok (.ifCond .eq 13, 3) := by decide +kernel
theorem dX5_to_32 : decode cX5_to 32 = .ok (.iload_n 2, 1) := by decide +kernel
theorem dX5_to_33 : decode cX5_to 33 = .ok (.invokestatic 76, 3) := by decide +kernel
theorem dX5_to_36 : decode cX5_to 36 = .ok (.ifCond .ne 16, 3) := by decide +kernel
theorem dX5_to_39 : decode cX5_to 39 = .ok (.goto 10, 3) := by decide +kernel
theorem dX5_to_42 : decode cX5_to 42 = .ok (.iload_n 2, 1) := by decide +kernel
theorem dX5_to_43 : decode cX5_to 43 = .ok (.invokestatic 59, 3) := by decide +kernel
theorem dX5_to_46 : decode cX5_to 46 = .ok (.ifCond .ne 6, 3) := by decide +kernel
theorem dX5_to_49 : decode cX5_to 49 = .ok (.bipush (-4), 2) := by decide +kernel
theorem dX5_to_51 : decode cX5_to 51 = .ok (.ireturn, 1) := by decide +kernel
theorem dX5_to_52 : decode cX5_to 52 = .ok (.aload_n 3, 1) := by decide +kernel
theorem dX5_to_53 : decode cX5_to 53 = .ok (.getfield 111, 3) := by decide +kernel
theorem dX5_to_56 : decode cX5_to 56 = .ok (.invokevirtual 106, 3) := by decide +kernel
theorem dX5_to_59 : decode cX5_to 59 = .ok (.ifCond .ne 18, 3) := by decide +kernel
theorem dX5_to_62 : decode cX5_to 62 = .ok (.iload 4, 2) := by decide +kernel
theorem dX5_to_64 : decode cX5_to 64 = .ok (.ifCond .eq 15, 3) := by decide +kernel
theorem dX5_to_67 : decode cX5_to 67 = .ok (.aload_n 3, 1) := by decide +kernel
theorem dX5_to_68 : decode cX5_to 68 = .ok (.getfield 111, 3) := by decide +kernel
theorem dX5_to_71 : decode cX5_to 71 = .ok (.getfield 110, 3) := by decide +kernel
theorem dX5_to_74 : decode cX5_to 74 = .ok (.ifCond .le 5, 3) := by decide +kernel
theorem dX5_to_77 : decode cX5_to 77 = .ok (.iconst (-1), 1) := by decide +kernel
theorem dX5_to_78 : decode cX5_to 78 = .ok (.ireturn, 1) := by decide +kernel
theorem dX5_to_79 : decode cX5_to 79 = .ok (.aload_n 3, 1) := by decide +kernel
theorem dX5_to_80 : decode cX5_to 80 = .ok (.getfield 111, 3) := by decide +kernel
theorem dX5_to_83 : decode cX5_to 83 = .ok (.iload_n 2, 1) := by decide +kernel
theorem dX5_to_84 : decode cX5_to 84 = .ok (.invokevirtual 88, 3) := by decide +kernel
theorem dX5_to_87 : decode cX5_to 87 = .ok (.aload_n 3, 1) := by decide +kernel
theorem dX5_to_88 : decode cX5_to 88 = .ok (.getfield 111, 3) := by decide +kernel
theorem dX5_to_91 : decode cX5_to 91 = .ok (.getfield 110, 3) := by decide +kernel
theorem dX5_to_94 : decode cX5_to 94 = .ok (.ireturn, 1) := by decide +kernel
theorem dX5_run_0 : decode cX5_run 0 = .ok (.aload_n 0, 1) := by decide +kernel
theorem dX5_run_1 : decode cX5_run 1 = .ok (.getfield 37, 3) := by decide +kernel
theorem dX5_run_4 : decode cX5_run 4 = .ok (.invokevirtual 114, 3) := by decide +kernel
theorem dX5_run_7 : decode cX5_run 7 = .ok (.aload_n 0, 1) := by decide +kernel
theorem dX5_run_8 : decode cX5_run 8 = .ok (.iconst 0, 1) := by decide +kernel
theorem dX5_run_9 : decode cX5_run 9 = .ok (.putfield 117, 3) := by decide +kernel
theorem dX5_run_12 : decode cX5_run 12 = .ok (.aload_n 0, 1) := by decide +kernel
theorem dX5_run_13 : decode cX5_run 13 = .ok (.iconst 0, 1) := by decide +kernel
theorem dX5_run_14 : decode cX5_run 14 = .ok (.putfield 120, 3) := by decide +kernel
theorem dX5_run_17 : decode cX5_run 17 = .ok (.aload_n 0, 1) := by decide +kernel
theorem dX5_run_18 : decode cX5_run 18 = .ok (.iconst 0, 1) := by decide +kernel
theorem dX5_run_19 : decode cX5_run 19 = .ok (.putfield 123, 3) := by decide +kernel
theorem dX5_run_22 : decode cX5_run 22 = .ok (.aload_n 0, 1) := by decide +kernel
theorem dX5_run_23 : decode cX5_run 23 = .ok (.iconst 0, 1) := by decide +kernel
theorem dX5_run_24 : decode cX5_run 24 = .ok (.invokevirtual 55, 3) := by decide +kernel
theorem dX5_run_27 : decode cX5_run 27 = .ok (.astore_n 1, 1) := by decide +kernel
theorem dX5_run_28 : decode cX5_run 28 = .ok (.aload_n 1, 1) := by decide +kernel
theorem dX5_run_29 : decode cX5_run 29 = .ok (.ifnonnull 11, 3) := by decide +kernel
theorem dX5_run_32 : decode cX5_run 32 = .ok (.aload_n 0, 1) := by decide +kernel
theorem dX5_run_33 : decode cX5_run 33 = .ok (.getfield 37, 3) := by decide +kernel
theorem dX5_run_36 : decode cX5_run 36 = .ok (.getfield 126, 3) := by decide +kernel
theorem dX5_run_39 : decode cX5_run 39 = .ok (.ireturn, 1) := by decide +kernel
theorem dX5_run_40 : decode cX5_run 40 = .ok (.aload_n 0, 1) := by decide +kernel
theorem dX5_run_41 : decode cX5_run 41 = .ok (.aload_n 1, 1) := by decide +kernel
theorem dX5_run_42 : decode cX5_run 42 = .ok (.iconst 0, 1) := by decide +kernel
theorem dX5_run_43 : decode cX5_run 43 = .ok (.iconst 0, 1) := by decide +kernel
theorem dX5_run_44 : decode cX5_run 44 = .ok (.invokevirtual 127, 3) := by decide +kernel
theorem dX5_run_47 : decode cX5_run 47 = .ok (.istore_n 2, 1) := by decide +kernel
theorem dX5_run_48 : decode cX5_run 48 = .ok (.iload_n 2, 1) := by decide +kernel
theorem dX5_run_49 : decode cX5_run 49 = .ok (.ifCond .ne 12, 3) := by decide +kernel
theorem dX5_run_52 : decode cX5_run 52 = .ok (.aload_n 0, 1) := by decide +kernel
theorem dX5_run_53 : decode cX5_run 53 = .ok (.aload_n 1, 1) := by decide +kernel
theorem dX5_run_54 : decode cX5_run 54 = .ok (.getfield 131, 3) := by decide +kernel
theorem dX5_run_57 : decode cX5_run 57 = .ok (.invokevirtual 134, 3) := by decide +kernel
theorem dX5_run_60 : decode cX5_run 60 = .ok (.istore_n 2, 1) := by decide +kernel
theorem dX5_run_61 : decode cX5_run 61 = .ok (.iload_n 2, 1) := by decide +kernel
theorem dX5_run_62 : decode cX5_run 62 = .ok (.ifCond .eq 12, 3) := by decide +kernel
theorem dX5_run_65 : decode cX5_run 65 = .ok (.aload_n 0, 1) := by decide +kernel
theorem dX5_run_66 : decode cX5_run 66 = .ok (.getfield 37, 3) := by decide +kernel
theorem dX5_run_69 : decode cX5_run 69 = .ok (.invokevirtual 114, 3) := by decide +kernel
theorem dX5_run_72 : decode cX5_run 72 = .ok (.iload_n 2, 1) := by decide +kernel
theorem dX5_run_73 : decode cX5_run 73 = .ok (.ireturn, 1) := by decide +kernel
theorem dX5_run_74 : decode cX5_run 74 = .ok (.aload_n 0, 1) := by decide +kernel
theorem dX5_run_75 : decode cX5_run 75 = .ok (.getfield 37, 3) := by decide +kernel
theorem dX5_run_78 : decode cX5_run 78 = .ok (.getfield 126, 3) := by decide +kernel
theorem dX5_run_81 : decode cX5_run 81 = .ok (.ireturn, 1) := by decide +kernel
theorem dX5_at_0 : decode cX5_at 0 = .ok (.aload_n 0, 1) := by decide +kernel
theorem dX5_at_1 : decode cX5_at 1 = .ok (.getfield 37, 3) := by decide +kernel
theorem dX5_at_4 : decode cX5_at 4 = .ok (.iload_n 1, 1) := by decide +kernel
theorem dX5_at_5 : decode cX5_at 5 = .ok (.invokevirtual 138, 3) := by decide +kernel
theorem dX5_at_8 : decode cX5_at 8 = .ok (.ifCond .ne 11, 3) := by decide +kernel
theorem dX5_at_11 : decode cX5_at 11 = .ok (.new 141, 3) := by decide +kernel
theorem dX5_at_14 : decode cX5_at 14 = .ok (.dup, 1) := by decide +kernel
theorem dX5_at_15 : decode cX5_at 15 = .ok (.invokespecial 143, 3) := by decide +kernel
theorem dX5_at_18 : decode cX5_at 18 = .ok (.athrow, 1) := by decide +kernel
theorem dX5_at_19 : decode cX5_at 19 = .ok (.aload_n 0, 1) := by decide +kernel
theorem dX5_at_20 : decode cX5_at 20 = .ok (.getfield 37, 3) := by decide +kernel
theorem dX5_at_23 : decode cX5_at 23 = .ok (.iload_n 1, 1) := by decide +kernel
theorem dX5_at_24 : decode cX5_at 24 = .ok (.invokevirtual 144, 3) := by decide +kernel
theorem dX5_at_27 : decode cX5_at 27 = .ok (.ireturn, 1) := by decide +kernel
theorem dX5_place_0 : decode cX5_place 0 = .ok (.aload_n 0, 1) := by decide +kernel
theorem dX5_place_1 : decode cX5_place 1 = .ok (.getfield 37, 3) := by decide +kernel
theorem dX5_place_4 : decode cX5_place 4 = .ok (.iload_n 1, 1) := by decide +kernel
theorem dX5_place_5 : decode cX5_place 5 = .ok (.invokevirtual 138, 3) := by decide +kernel
theorem dX5_place_8 : decode cX5_place 8 = .ok (.ifCond .ne 5, 3) := by decide +kernel
theorem dX5_place_11 : decode cX5_place 11 = .ok (.iconst (-1), 1) := by decide +kernel
theorem dX5_place_12 : decode cX5_place 12 = .ok (.ireturn, 1) := by decide +kernel
theorem dX5_place_13 : decode cX5_place 13 = .ok (.iload_n 2, 1) := by decide +kernel
theorem dX5_place_14 : decode cX5_place 14 = .ok (.tableswitch 92 0 4 #[34, 44, 54, 64, 82], 34) := by decide +kernel
theorem dX5_place_48 : decode cX5_place 48 = .ok (.aload_n 0, 1) := by decide +kernel
theorem dX5_place_49 : decode cX5_place 49 = .ok (.getfield 37, 3) := by decide +kernel
theorem dX5_place_52 : decode cX5_place 52 = .ok (.getfield 148, 3) := by decide +kernel
theorem dX5_place_55 : decode cX5_place 55 = .ok (.iload_n 1, 1) := by decide +kernel
theorem dX5_place_56 : decode cX5_place 56 = .ok (.iaload, 1) := by decide +kernel
theorem dX5_place_57 : decode cX5_place 57 = .ok (.ireturn, 1) := by decide +kernel
theorem dX5_place_58 : decode cX5_place 58 = .ok (.aload_n 0, 1) := by decide +kernel
theorem dX5_place_59 : decode cX5_place 59 = .ok (.getfield 37, 3) := by decide +kernel
theorem dX5_place_62 : decode cX5_place 62 = .ok (.getfield 150, 3) := by decide +kernel
theorem dX5_place_65 : decode cX5_place 65 = .ok (.iload_n 1, 1) := by decide +kernel
theorem dX5_place_66 : decode cX5_place 66 = .ok (.iaload, 1) := by decide +kernel
theorem dX5_place_67 : decode cX5_place 67 = .ok (.ireturn, 1) := by decide +kernel
theorem dX5_place_68 : decode cX5_place 68 = .ok (.aload_n 0, 1) := by decide +kernel
theorem dX5_place_69 : decode cX5_place 69 = .ok (.getfield 37, 3) := by decide +kernel
theorem dX5_place_72 : decode cX5_place 72 = .ok (.getfield 153, 3) := by decide +kernel
theorem dX5_place_75 : decode cX5_place 75 = .ok (.iload_n 1, 1) := by decide +kernel
theorem dX5_place_76 : decode cX5_place 76 = .ok (.iaload, 1) := by decide +kernel
theorem dX5_place_77 : decode cX5_place 77 = .ok (.ireturn, 1) := by decide +kernel
theorem dX5_place_78 : decode cX5_place 78 = .ok (.aload_n 0, 1) := by decide +kernel
theorem dX5_place_79 : decode cX5_place 79 = .ok (.getfield 37, 3) := by decide +kernel
theorem dX5_place_82 : decode cX5_place 82 = .ok (.getfield 155, 3) := by decide +kernel
theorem dX5_place_85 : decode cX5_place 85 = .ok (.iload_n 1, 1) := by decide +kernel
theorem dX5_place_86 : decode cX5_place 86 = .ok (.baload, 1) := by decide +kernel
theorem dX5_place_87 : decode cX5_place 87 = .ok (.ifCond .eq 7, 3) := by decide +kernel
theorem dX5_place_90 : decode cX5_place 90 = .ok (.iconst 1, 1) := by decide +kernel
theorem dX5_place_91 : decode cX5_place 91 = .ok (.goto 4, 3) := by decide +kernel
theorem dX5_place_94 : decode cX5_place 94 = .ok (.iconst 0, 1) := by decide +kernel
theorem dX5_place_95 : decode cX5_place 95 = .ok (.ireturn, 1) := by decide +kernel
theorem dX5_place_96 : decode cX5_place 96 = .ok (.aload_n 0, 1) := by decide +kernel
theorem dX5_place_97 : decode cX5_place 97 = .ok (.getfield 37, 3) := by decide +kernel
theorem dX5_place_100 : decode cX5_place 100 = .ok (.getfield 159, 3) := by decide +kernel
theorem dX5_place_103 : decode cX5_place 103 = .ok (.iload_n 1, 1) := by decide +kernel
theorem dX5_place_104 : decode cX5_place 104 = .ok (.iaload, 1) := by decide +kernel
theorem dX5_place_105 : decode cX5_place 105 = .ok (.ireturn, 1) := by decide +kernel
theorem dX5_place_106 : decode cX5_place 106 = .ok (.iconst (-1), 1) := by decide +kernel
theorem dX5_place_107 : decode cX5_place 107 = .ok (.ireturn, 1) := by decide +kernel
theorem dX5_ring_0 : decode cX5_ring 0 = .ok (.iload_n 1, 1) := by decide +kernel
theorem dX5_ring_1 : decode cX5_ring 1 = .ok (.ifCond .lt 29, 3) := by decide +kernel
theorem dX5_ring_4 : decode cX5_ring 4 = .ok (.iload_n 1, 1) := by decide +kernel
theorem dX5_ring_5 : decode cX5_ring 5 = .ok (.aload_n 0, 1) := by decide +kernel
theorem dX5_ring_6 : decode cX5_ring 6 = .ok (.getfield 117, 3) := by decide +kernel
theorem dX5_ring_9 : decode cX5_ring 9 = .ok (.if_icmp .ge 21, 3) := by decide +kernel
theorem dX5_ring_12 : decode cX5_ring 12 = .ok (.iload_n 1, 1) := by decide +kernel
theorem dX5_ring_13 : decode cX5_ring 13 = .ok (.aload_n 0, 1) := by decide +kernel
theorem dX5_ring_14 : decode cX5_ring 14 = .ok (.getfield 40, 3) := by decide +kernel
theorem dX5_ring_17 : decode cX5_ring 17 = .ok (.arraylength, 1) := by decide +kernel
theorem dX5_ring_18 : decode cX5_ring 18 = .ok (.if_icmp .ge 12, 3) := by decide +kernel
theorem dX5_ring_21 : decode cX5_ring 21 = .ok (.aload_n 0, 1) := by decide +kernel
theorem dX5_ring_22 : decode cX5_ring 22 = .ok (.getfield 40, 3) := by decide +kernel
theorem dX5_ring_25 : decode cX5_ring 25 = .ok (.iload_n 1, 1) := by decide +kernel
theorem dX5_ring_26 : decode cX5_ring 26 = .ok (.iaload, 1) := by decide +kernel
theorem dX5_ring_27 : decode cX5_ring 27 = .ok (.goto 4, 3) := by decide +kernel
theorem dX5_ring_30 : decode cX5_ring 30 = .ok (.iconst (-1), 1) := by decide +kernel
theorem dX5_ring_31 : decode cX5_ring 31 = .ok (.ireturn, 1) := by decide +kernel
theorem dX5_count_0 : decode cX5_count 0 = .ok (.iload_n 1, 1) := by decide +kernel
theorem dX5_count_1 : decode cX5_count 1 = .ok (.tableswitch 62 0 4 #[35, 42, 47, 52, 57], 35) := by decide +kernel
theorem dX5_count_36 : decode cX5_count 36 = .ok (.aload_n 0, 1) := by decide +kernel
theorem dX5_count_37 : decode cX5_count 37 = .ok (.getfield 47, 3) := by decide +kernel
theorem dX5_count_40 : decode cX5_count 40 = .ok (.iconst 1, 1) := by decide +kernel
theorem dX5_count_41 : decode cX5_count 41 = .ok (.isub, 1) := by decide +kernel
theorem dX5_count_42 : decode cX5_count 42 = .ok (.ireturn, 1) := by decide +kernel
theorem dX5_count_43 : decode cX5_count 43 = .ok (.aload_n 0, 1) := by decide +kernel
theorem dX5_count_44 : decode cX5_count 44 = .ok (.getfield 162, 3) := by decide +kernel
theorem dX5_count_47 : decode cX5_count 47 = .ok (.ireturn, 1) := by decide +kernel
theorem dX5_count_48 : decode cX5_count 48 = .ok (.aload_n 0, 1) := by decide +kernel
theorem dX5_count_49 : decode cX5_count 49 = .ok (.getfield 79, 3) := by decide +kernel
theorem dX5_count_52 : decode cX5_count 52 = .ok (.ireturn, 1) := by decide +kernel
theorem dX5_count_53 : decode cX5_count 53 = .ok (.aload_n 0, 1) := by decide +kernel
theorem dX5_count_54 : decode cX5_count 54 = .ok (.getfield 120, 3) := by decide +kernel
theorem dX5_count_57 : decode cX5_count 57 = .ok (.ireturn, 1) := by decide +kernel
theorem dX5_count_58 : decode cX5_count 58 = .ok (.aload_n 0, 1) := by decide +kernel
theorem dX5_count_59 : decode cX5_count 59 = .ok (.getfield 123, 3) := by decide +kernel
theorem dX5_count_62 : decode cX5_count 62 = .ok (.ireturn, 1) := by decide +kernel
theorem dX5_count_63 : decode cX5_count 63 = .ok (.iconst (-1), 1) := by decide +kernel
theorem dX5_count_64 : decode cX5_count 64 = .ok (.ireturn, 1) := by decide +kernel
theorem dX5_addStatement_0 : decode cX5_addStatement 0 = .ok (.aload_n 0, 1) := by decide +kernel
theorem dX5_addStatement_1 : decode cX5_addStatement 1 = .ok (.getfield 162, 3) := by decide +kernel
theorem dX5_addStatement_4 : decode cX5_addStatement 4 = .ok (.bipush 60, 2) := by decide +kernel
theorem dX5_addStatement_6 : decode cX5_addStatement 6 = .ok (.if_icmp .ge 19, 3) := by decide +kernel
theorem dX5_addStatement_9 : decode cX5_addStatement 9 = .ok (.aload_n 1, 1) := by decide +kernel
theorem dX5_addStatement_10 : decode cX5_addStatement 10 = .ok (.bipush (-100), 2) := by decide +kernel
theorem dX5_addStatement_12 : decode cX5_addStatement 12 = .ok (.aload_n 0, 1) := by decide +kernel
theorem dX5_addStatement_13 : decode cX5_addStatement 13 = .ok (.getfield 162, 3) := by decide +kernel
theorem dX5_addStatement_16 : decode cX5_addStatement 16 = .ok (.iconst 1, 1) := by decide +kernel
theorem dX5_addStatement_17 : decode cX5_addStatement 17 = .ok (.iadd, 1) := by decide +kernel
theorem dX5_addStatement_18 : decode cX5_addStatement 18 = .ok (.isub, 1) := by decide +kernel
theorem dX5_addStatement_19 : decode cX5_addStatement 19 = .ok (.invokevirtual 62, 3) := by decide +kernel
theorem dX5_addStatement_22 : decode cX5_addStatement 22 = .ok (.ifCond .ne 5, 3) := by decide +kernel
theorem dX5_addStatement_25 : decode cX5_addStatement 25 = .ok (.iconst (-1), 1) := by decide +kernel
theorem dX5_addStatement_26 : decode cX5_addStatement 26 = .ok (.ireturn, 1) := by decide +kernel
theorem dX5_addStatement_27 : decode cX5_addStatement 27 = .ok (.new 15, 3) := by decide +kernel
theorem dX5_addStatement_30 : decode cX5_addStatement 30 = .ok (.dup, 1) := by decide +kernel
theorem dX5_addStatement_31 : decode cX5_addStatement 31 = .ok (.aload_n 0, 1) := by decide +kernel
theorem dX5_addStatement_32 : decode cX5_addStatement 32 = .ok (.getfield 162, 3) := by decide +kernel
theorem dX5_addStatement_35 : decode cX5_addStatement 35 = .ok (.iconst 1, 1) := by decide +kernel
theorem dX5_addStatement_36 : decode cX5_addStatement 36 = .ok (.iadd, 1) := by decide +kernel
theorem dX5_addStatement_37 : decode cX5_addStatement 37 = .ok (.iload_n 2, 1) := by decide +kernel
theorem dX5_addStatement_38 : decode cX5_addStatement 38 = .ok (.iload_n 3, 1) := by decide +kernel
theorem dX5_addStatement_39 : decode cX5_addStatement 39 = .ok (.iload 4, 2) := by decide +kernel
theorem dX5_addStatement_41 : decode cX5_addStatement 41 = .ok (.invokespecial 165, 3) := by decide +kernel
theorem dX5_addStatement_44 : decode cX5_addStatement 44 = .ok (.astore 5, 2) := by decide +kernel
theorem dX5_addStatement_46 : decode cX5_addStatement 46 = .ok (.aload_n 0, 1) := by decide +kernel
theorem dX5_addStatement_47 : decode cX5_addStatement 47 = .ok (.getfield 17, 3) := by decide +kernel
theorem dX5_addStatement_50 : decode cX5_addStatement 50 = .ok (.aload_n 0, 1) := by decide +kernel
theorem dX5_addStatement_51 : decode cX5_addStatement 51 = .ok (.getfield 162, 3) := by decide +kernel
theorem dX5_addStatement_54 : decode cX5_addStatement 54 = .ok (.aload 5, 2) := by decide +kernel
theorem dX5_addStatement_56 : decode cX5_addStatement 56 = .ok (.aastore, 1) := by decide +kernel
theorem dX5_addStatement_57 : decode cX5_addStatement 57 = .ok (.aload_n 0, 1) := by decide +kernel
theorem dX5_addStatement_58 : decode cX5_addStatement 58 = .ok (.dup, 1) := by decide +kernel
theorem dX5_addStatement_59 : decode cX5_addStatement 59 = .ok (.getfield 162, 3) := by decide +kernel
theorem dX5_addStatement_62 : decode cX5_addStatement 62 = .ok (.iconst 1, 1) := by decide +kernel
theorem dX5_addStatement_63 : decode cX5_addStatement 63 = .ok (.iadd, 1) := by decide +kernel
theorem dX5_addStatement_64 : decode cX5_addStatement 64 = .ok (.putfield 162, 3) := by decide +kernel
theorem dX5_addStatement_67 : decode cX5_addStatement 67 = .ok (.aload 5, 2) := by decide +kernel
theorem dX5_addStatement_69 : decode cX5_addStatement 69 = .ok (.getfield 168, 3) := by decide +kernel
theorem dX5_addStatement_72 : decode cX5_addStatement 72 = .ok (.ireturn, 1) := by decide +kernel
theorem dX5_textNumbered_0 : decode cX5_textNumbered 0 = .ok (.iload_n 1, 1) := by decide +kernel
theorem dX5_textNumbered_1 : decode cX5_textNumbered 1 = .ok (.ifCond .lt 29, 3) := by decide +kernel
theorem dX5_textNumbered_4 : decode cX5_textNumbered 4 = .ok (.iload_n 1, 1) := by decide +kernel
theorem dX5_textNumbered_5 : decode cX5_textNumbered 5 = .ok (.aload_n 0, 1) := by decide +kernel
theorem dX5_textNumbered_6 : decode cX5_textNumbered 6 = .ok (.getfield 47, 3) := by decide +kernel
theorem dX5_textNumbered_9 : decode cX5_textNumbered 9 = .ok (.if_icmp .ge 21, 3) := by decide +kernel
theorem dX5_textNumbered_12 : decode cX5_textNumbered 12 = .ok (.iload_n 1, 1) := by decide +kernel
theorem dX5_textNumbered_13 : decode cX5_textNumbered 13 = .ok (.aload_n 0, 1) := by decide +kernel
theorem dX5_textNumbered_14 : decode cX5_textNumbered 14 = .ok (.getfield 11, 3) := by decide +kernel
theorem dX5_textNumbered_17 : decode cX5_textNumbered 17 = .ok (.arraylength, 1) := by decide +kernel
theorem dX5_textNumbered_18 : decode cX5_textNumbered 18 = .ok (.if_icmp .ge 12, 3) := by decide +kernel
theorem dX5_textNumbered_21 : decode cX5_textNumbered 21 = .ok (.aload_n 0, 1) := by decide +kernel
theorem dX5_textNumbered_22 : decode cX5_textNumbered 22 = .ok (.getfield 11, 3) := by decide +kernel
theorem dX5_textNumbered_25 : decode cX5_textNumbered 25 = .ok (.iload_n 1, 1) := by decide +kernel
theorem dX5_textNumbered_26 : decode cX5_textNumbered 26 = .ok (.aaload, 1) := by decide +kernel
theorem dX5_textNumbered_27 : decode cX5_textNumbered 27 = .ok (.goto 4, 3) := by decide +kernel
theorem dX5_textNumbered_30 : decode cX5_textNumbered 30 = .ok (.aconst_null, 1) := by decide +kernel
theorem dX5_textNumbered_31 : decode cX5_textNumbered 31 = .ok (.areturn, 1) := by decide +kernel
theorem dX5_statementNumbered_0 : decode cX5_statementNumbered 0 = .ok (.iload_n 1, 1) := by decide +kernel
theorem dX5_statementNumbered_1 : decode cX5_statementNumbered 1 = .ok (.iconst 1, 1) := by decide +kernel
theorem dX5_statementNumbered_2 : decode cX5_statementNumbered 2 = .ok (.if_icmp .lt 31, 3) := by decide +kernel
theorem dX5_statementNumbered_5 : decode cX5_statementNumbered 5 = .ok (.iload_n 1, 1) := by decide +kernel
theorem dX5_statementNumbered_6 : decode cX5_statementNumbered 6 = .ok (.aload_n 0, 1) := by decide +kernel
theorem dX5_statementNumbered_7 : decode cX5_statementNumbered 7 = .ok (.getfield 162, 3) := by decide +kernel
theorem dX5_statementNumbered_10 : decode cX5_statementNumbered 10 = .ok (.if_icmp .gt 23, 3) := by decide +kernel
theorem dX5_statementNumbered_13 : decode cX5_statementNumbered 13 = .ok (.iload_n 1, 1) := by decide +kernel
theorem dX5_statementNumbered_14 : decode cX5_statementNumbered 14 = .ok (.aload_n 0, 1) := by decide +kernel
theorem dX5_statementNumbered_15 : decode cX5_statementNumbered 15 = .ok (.getfield 17, 3) := by decide +kernel
theorem dX5_statementNumbered_18 : decode cX5_statementNumbered 18 = .ok (.arraylength, 1) := by decide +kernel
theorem dX5_statementNumbered_19 : decode cX5_statementNumbered 19 = .ok (.if_icmp .gt 14, 3) := by decide +kernel
theorem dX5_statementNumbered_22 : decode cX5_statementNumbered 22 = .ok (.aload_n 0, 1) := by decide +kernel
theorem dX5_statementNumbered_23 : decode cX5_statementNumbered 23 = .ok (.getfield 17, 3) := by decide +kernel
theorem dX5_statementNumbered_26 : decode cX5_statementNumbered 26 = .ok (.iload_n 1, 1) := by decide +kernel
theorem dX5_statementNumbered_27 : decode cX5_statementNumbered 27 = .ok (.iconst 1, 1) := by decide +kernel
theorem dX5_statementNumbered_28 : decode cX5_statementNumbered 28 = .ok (.isub, 1) := by decide +kernel
theorem dX5_statementNumbered_29 : decode cX5_statementNumbered 29 = .ok (.aaload, 1) := by decide +kernel
theorem dX5_statementNumbered_30 : decode cX5_statementNumbered 30 = .ok (.goto 4, 3) := by decide +kernel
theorem dX5_statementNumbered_33 : decode cX5_statementNumbered 33 = .ok (.aconst_null, 1) := by decide +kernel
theorem dX5_statementNumbered_34 : decode cX5_statementNumbered 34 = .ok (.areturn, 1) := by decide +kernel
theorem dX5_phraseNumbered_0 : decode cX5_phraseNumbered 0 = .ok (.iload_n 1, 1) := by decide +kernel
theorem dX5_phraseNumbered_1 : decode cX5_phraseNumbered 1 = .ok (.iconst 1, 1) := by decide +kernel
theorem dX5_phraseNumbered_2 : decode cX5_phraseNumbered 2 = .ok (.if_icmp .lt 31, 3) := by decide +kernel
theorem dX5_phraseNumbered_5 : decode cX5_phraseNumbered 5 = .ok (.iload_n 1, 1) := by decide +kernel
theorem dX5_phraseNumbered_6 : decode cX5_phraseNumbered 6 = .ok (.aload_n 0, 1) := by decide +kernel
theorem dX5_phraseNumbered_7 : decode cX5_phraseNumbered 7 = .ok (.getfield 79, 3) := by decide +kernel
theorem dX5_phraseNumbered_10 : decode cX5_phraseNumbered 10 = .ok (.if_icmp .gt 23, 3) := by decide +kernel
theorem dX5_phraseNumbered_13 : decode cX5_phraseNumbered 13 = .ok (.iload_n 1, 1) := by decide +kernel
theorem dX5_phraseNumbered_14 : decode cX5_phraseNumbered 14 = .ok (.aload_n 0, 1) := by decide +kernel
theorem dX5_phraseNumbered_15 : decode cX5_phraseNumbered 15 = .ok (.getfield 23, 3) := by decide +kernel
theorem dX5_phraseNumbered_18 : decode cX5_phraseNumbered 18 = .ok (.arraylength, 1) := by decide +kernel
theorem dX5_phraseNumbered_19 : decode cX5_phraseNumbered 19 = .ok (.if_icmp .gt 14, 3) := by decide +kernel
theorem dX5_phraseNumbered_22 : decode cX5_phraseNumbered 22 = .ok (.aload_n 0, 1) := by decide +kernel
theorem dX5_phraseNumbered_23 : decode cX5_phraseNumbered 23 = .ok (.getfield 23, 3) := by decide +kernel
theorem dX5_phraseNumbered_26 : decode cX5_phraseNumbered 26 = .ok (.iload_n 1, 1) := by decide +kernel
theorem dX5_phraseNumbered_27 : decode cX5_phraseNumbered 27 = .ok (.iconst 1, 1) := by decide +kernel
theorem dX5_phraseNumbered_28 : decode cX5_phraseNumbered 28 = .ok (.isub, 1) := by decide +kernel
theorem dX5_phraseNumbered_29 : decode cX5_phraseNumbered 29 = .ok (.aaload, 1) := by decide +kernel
theorem dX5_phraseNumbered_30 : decode cX5_phraseNumbered 30 = .ok (.goto 4, 3) := by decide +kernel
theorem dX5_phraseNumbered_33 : decode cX5_phraseNumbered 33 = .ok (.aconst_null, 1) := by decide +kernel
theorem dX5_phraseNumbered_34 : decode cX5_phraseNumbered 34 = .ok (.areturn, 1) := by decide +kernel
theorem dX5_statementOf_0 : decode cX5_statementOf 0 = .ok (.iload_n 1, 1) := by decide +kernel
theorem dX5_statementOf_1 : decode cX5_statementOf 1 = .ok (.bipush (-100), 2) := by decide +kernel
theorem dX5_statementOf_3 : decode cX5_statementOf 3 = .ok (.if_icmp .ge 14, 3) := by decide +kernel
theorem dX5_statementOf_6 : decode cX5_statementOf 6 = .ok (.aload_n 0, 1) := by decide +kernel
theorem dX5_statementOf_7 : decode cX5_statementOf 7 = .ok (.bipush (-100), 2) := by decide +kernel
theorem dX5_statementOf_9 : decode cX5_statementOf 9 = .ok (.iload_n 1, 1) := by decide +kernel
theorem dX5_statementOf_10 : decode cX5_statementOf 10 = .ok (.isub, 1) := by decide +kernel
theorem dX5_statementOf_11 : decode cX5_statementOf 11 = .ok (.invokevirtual 72, 3) := by decide +kernel
theorem dX5_statementOf_14 : decode cX5_statementOf 14 = .ok (.goto 4, 3) := by decide +kernel
theorem dX5_statementOf_17 : decode cX5_statementOf 17 = .ok (.aconst_null, 1) := by decide +kernel
theorem dX5_statementOf_18 : decode cX5_statementOf 18 = .ok (.areturn, 1) := by decide +kernel
theorem dX5_textNamed_0 : decode cX5_textNamed 0 = .ok (.iconst 1, 1) := by decide +kernel
theorem dX5_textNamed_1 : decode cX5_textNamed 1 = .ok (.istore_n 2, 1) := by decide +kernel
theorem dX5_textNamed_2 : decode cX5_textNamed 2 = .ok (.iload_n 2, 1) := by decide +kernel
theorem dX5_textNamed_3 : decode cX5_textNamed 3 = .ok (.aload_n 0, 1) := by decide +kernel
theorem dX5_textNamed_4 : decode cX5_textNamed 4 = .ok (.getfield 47, 3) := by decide +kernel
theorem dX5_textNamed_7 : decode cX5_textNamed 7 = .ok (.if_icmp .ge 29, 3) := by decide +kernel
theorem dX5_textNamed_10 : decode cX5_textNamed 10 = .ok (.aload_n 0, 1) := by decide +kernel
theorem dX5_textNamed_11 : decode cX5_textNamed 11 = .ok (.iload_n 2, 1) := by decide +kernel
theorem dX5_textNamed_12 : decode cX5_textNamed 12 = .ok (.invokevirtual 55, 3) := by decide +kernel
theorem dX5_textNamed_15 : decode cX5_textNamed 15 = .ok (.astore_n 3, 1) := by decide +kernel
theorem dX5_textNamed_16 : decode cX5_textNamed 16 = .ok (.aload_n 3, 1) := by decide +kernel
theorem dX5_textNamed_17 : decode cX5_textNamed 17 = .ok (.ifnull 13, 3) := by decide +kernel
end
section
theorem dX5_textNamed_20 : decode cX5_textNamed 20 = .ok (.aload_n 3, 1) := by decide +kernel
theorem dX5_textNamed_21 : decode cX5_textNamed 21 = .ok (.getfield 169, 3) := by decide +kernel
theorem dX5_textNamed_24 : decode cX5_textNamed 24 = .ok (.iload_n 1, 1) := by decide +kernel
theorem dX5_textNamed_25 : decode cX5_textNamed 25 = .ok (.if_icmp .ne 5, 3) := by decide +kernel
theorem dX5_textNamed_28 : decode cX5_textNamed 28 = .ok (.aload_n 3, 1) := by decide +kernel
theorem dX5_textNamed_29 : decode cX5_textNamed 29 = .ok (.areturn, 1) := by decide +kernel
theorem dX5_textNamed_30 : decode cX5_textNamed 30 = .ok (.iinc 2 1, 3) := by decide +kernel
theorem dX5_textNamed_33 : decode cX5_textNamed 33 = .ok (.goto (-31), 3) := by decide +kernel
theorem dX5_textNamed_36 : decode cX5_textNamed 36 = .ok (.aconst_null, 1) := by decide +kernel
theorem dX5_textNamed_37 : decode cX5_textNamed 37 = .ok (.areturn, 1) := by decide +kernel
theorem dX5_makeRow_0 : decode cX5_makeRow 0 = .ok (.iload_n 2, 1) := by decide +kernel
theorem dX5_makeRow_1 : decode cX5_makeRow 1 = .ok (.ifCond .lt 12, 3) := by decide +kernel
theorem dX5_makeRow_4 : decode cX5_makeRow 4 = .ok (.iload_n 2, 1) := by decide +kernel
theorem dX5_makeRow_5 : decode cX5_makeRow 5 = .ok (.aload_n 0, 1) := by decide +kernel
theorem dX5_makeRow_6 : decode cX5_makeRow 6 = .ok (.getfield 27, 3) := by decide +kernel
theorem dX5_makeRow_9 : decode cX5_makeRow 9 = .ok (.arraylength, 1) := by decide +kernel
theorem dX5_makeRow_10 : decode cX5_makeRow 10 = .ok (.if_icmp .lt 6, 3) := by decide +kernel
theorem dX5_makeRow_13 : decode cX5_makeRow 13 = .ok (.bipush (-3), 2) := by decide +kernel
theorem dX5_makeRow_15 : decode cX5_makeRow 15 = .ok (.ireturn, 1) := by decide +kernel
theorem dX5_makeRow_16 : decode cX5_makeRow 16 = .ok (.aload_n 0, 1) := by decide +kernel
theorem dX5_makeRow_17 : decode cX5_makeRow 17 = .ok (.getfield 27, 3) := by decide +kernel
theorem dX5_makeRow_20 : decode cX5_makeRow 20 = .ok (.iload_n 2, 1) := by decide +kernel
theorem dX5_makeRow_21 : decode cX5_makeRow 21 = .ok (.aload_n 1, 1) := by decide +kernel
theorem dX5_makeRow_22 : decode cX5_makeRow 22 = .ok (.aastore, 1) := by decide +kernel
theorem dX5_makeRow_23 : decode cX5_makeRow 23 = .ok (.aload_n 1, 1) := by decide +kernel
theorem dX5_makeRow_24 : decode cX5_makeRow 24 = .ok (.getfield 131, 3) := by decide +kernel
theorem dX5_makeRow_27 : decode cX5_makeRow 27 = .ok (.invokevirtual 114, 3) := by decide +kernel
theorem dX5_makeRow_30 : decode cX5_makeRow 30 = .ok (.iconst 0, 1) := by decide +kernel
theorem dX5_makeRow_31 : decode cX5_makeRow 31 = .ok (.istore 4, 2) := by decide +kernel
theorem dX5_makeRow_33 : decode cX5_makeRow 33 = .ok (.iload 4, 2) := by decide +kernel
theorem dX5_makeRow_35 : decode cX5_makeRow 35 = .ok (.aload_n 1, 1) := by decide +kernel
theorem dX5_makeRow_36 : decode cX5_makeRow 36 = .ok (.getfield 65, 3) := by decide +kernel
theorem dX5_makeRow_39 : decode cX5_makeRow 39 = .ok (.if_icmp .ge 91, 3) := by decide +kernel
theorem dX5_makeRow_42 : decode cX5_makeRow 42 = .ok (.aload_n 1, 1) := by decide +kernel
theorem dX5_makeRow_43 : decode cX5_makeRow 43 = .ok (.iload 4, 2) := by decide +kernel
theorem dX5_makeRow_45 : decode cX5_makeRow 45 = .ok (.invokevirtual 172, 3) := by decide +kernel
theorem dX5_makeRow_48 : decode cX5_makeRow 48 = .ok (.istore 5, 2) := by decide +kernel
theorem dX5_makeRow_50 : decode cX5_makeRow 50 = .ok (.aload_n 0, 1) := by decide +kernel
theorem dX5_makeRow_51 : decode cX5_makeRow 51 = .ok (.iload 5, 2) := by decide +kernel
theorem dX5_makeRow_53 : decode cX5_makeRow 53 = .ok (.invokevirtual 175, 3) := by decide +kernel
theorem dX5_makeRow_56 : decode cX5_makeRow 56 = .ok (.astore 6, 2) := by decide +kernel
theorem dX5_makeRow_58 : decode cX5_makeRow 58 = .ok (.aload 6, 2) := by decide +kernel
theorem dX5_makeRow_60 : decode cX5_makeRow 60 = .ok (.ifnull 28, 3) := by decide +kernel
theorem dX5_makeRow_63 : decode cX5_makeRow 63 = .ok (.aload 6, 2) := by decide +kernel
theorem dX5_makeRow_65 : decode cX5_makeRow 65 = .ok (.getfield 178, 3) := by decide +kernel
theorem dX5_makeRow_68 : decode cX5_makeRow 68 = .ok (.ifCond .eq 20, 3) := by decide +kernel
theorem dX5_makeRow_71 : decode cX5_makeRow 71 = .ok (.aload_n 0, 1) := by decide +kernel
theorem dX5_makeRow_72 : decode cX5_makeRow 72 = .ok (.aload_n 1, 1) := by decide +kernel
theorem dX5_makeRow_73 : decode cX5_makeRow 73 = .ok (.getfield 131, 3) := by decide +kernel
theorem dX5_makeRow_76 : decode cX5_makeRow 76 = .ok (.aload 6, 2) := by decide +kernel
theorem dX5_makeRow_78 : decode cX5_makeRow 78 = .ok (.iload_n 2, 1) := by decide +kernel
theorem dX5_makeRow_79 : decode cX5_makeRow 79 = .ok (.iload_n 3, 1) := by decide +kernel
theorem dX5_makeRow_80 : decode cX5_makeRow 80 = .ok (.invokevirtual 182, 3) := by decide +kernel
theorem dX5_makeRow_83 : decode cX5_makeRow 83 = .ok (.istore 7, 2) := by decide +kernel
theorem dX5_makeRow_85 : decode cX5_makeRow 85 = .ok (.goto 31, 3) := by decide +kernel
theorem dX5_makeRow_88 : decode cX5_makeRow 88 = .ok (.aload_n 1, 1) := by decide +kernel
theorem dX5_makeRow_89 : decode cX5_makeRow 89 = .ok (.getfield 131, 3) := by decide +kernel
theorem dX5_makeRow_92 : decode cX5_makeRow 92 = .ok (.iload 5, 2) := by decide +kernel
theorem dX5_makeRow_94 : decode cX5_makeRow 94 = .ok (.aload_n 1, 1) := by decide +kernel
theorem dX5_makeRow_95 : decode cX5_makeRow 95 = .ok (.getfield 186, 3) := by decide +kernel
theorem dX5_makeRow_98 : decode cX5_makeRow 98 = .ok (.iload 4, 2) := by decide +kernel
theorem dX5_makeRow_100 : decode cX5_makeRow 100 = .ok (.iload_n 2, 1) := by decide +kernel
theorem dX5_makeRow_101 : decode cX5_makeRow 101 = .ok (.iload_n 3, 1) := by decide +kernel
theorem dX5_makeRow_102 : decode cX5_makeRow 102 = .ok (.invokevirtual 187, 3) := by decide +kernel
theorem dX5_makeRow_105 : decode cX5_makeRow 105 = .ok (.ifCond .eq 7, 3) := by decide +kernel
theorem dX5_makeRow_108 : decode cX5_makeRow 108 = .ok (.iconst 0, 1) := by decide +kernel
theorem dX5_makeRow_109 : decode cX5_makeRow 109 = .ok (.goto 5, 3) := by decide +kernel
theorem dX5_makeRow_112 : decode cX5_makeRow 112 = .ok (.bipush (-3), 2) := by decide +kernel
theorem dX5_makeRow_114 : decode cX5_makeRow 114 = .ok (.istore 7, 2) := by decide +kernel
theorem dX5_makeRow_116 : decode cX5_makeRow 116 = .ok (.iload 7, 2) := by decide +kernel
theorem dX5_makeRow_118 : decode cX5_makeRow 118 = .ok (.ifCond .eq 6, 3) := by decide +kernel
theorem dX5_makeRow_121 : decode cX5_makeRow 121 = .ok (.iload 7, 2) := by decide +kernel
theorem dX5_makeRow_123 : decode cX5_makeRow 123 = .ok (.ireturn, 1) := by decide +kernel
theorem dX5_makeRow_124 : decode cX5_makeRow 124 = .ok (.iinc 4 1, 3) := by decide +kernel
theorem dX5_makeRow_127 : decode cX5_makeRow 127 = .ok (.goto (-94), 3) := by decide +kernel
theorem dX5_makeRow_130 : decode cX5_makeRow 130 = .ok (.iconst 0, 1) := by decide +kernel
theorem dX5_makeRow_131 : decode cX5_makeRow 131 = .ok (.ireturn, 1) := by decide +kernel
theorem dX5_addCopy_0 : decode cX5_addCopy 0 = .ok (.aload_n 0, 1) := by decide +kernel
theorem dX5_addCopy_1 : decode cX5_addCopy 1 = .ok (.getfield 120, 3) := by decide +kernel
theorem dX5_addCopy_4 : decode cX5_addCopy 4 = .ok (.bipush 100, 2) := by decide +kernel
theorem dX5_addCopy_6 : decode cX5_addCopy 6 = .ok (.if_icmp .lt 6, 3) := by decide +kernel
theorem dX5_addCopy_9 : decode cX5_addCopy 9 = .ok (.bipush (-3), 2) := by decide +kernel
theorem dX5_addCopy_11 : decode cX5_addCopy 11 = .ok (.ireturn, 1) := by decide +kernel
theorem dX5_addCopy_12 : decode cX5_addCopy 12 = .ok (.aload_n 0, 1) := by decide +kernel
theorem dX5_addCopy_13 : decode cX5_addCopy 13 = .ok (.dup, 1) := by decide +kernel
theorem dX5_addCopy_14 : decode cX5_addCopy 14 = .ok (.getfield 120, 3) := by decide +kernel
theorem dX5_addCopy_17 : decode cX5_addCopy 17 = .ok (.iconst 1, 1) := by decide +kernel
theorem dX5_addCopy_18 : decode cX5_addCopy 18 = .ok (.iadd, 1) := by decide +kernel
theorem dX5_addCopy_19 : decode cX5_addCopy 19 = .ok (.putfield 120, 3) := by decide +kernel
theorem dX5_addCopy_22 : decode cX5_addCopy 22 = .ok (.aload_n 0, 1) := by decide +kernel
theorem dX5_addCopy_23 : decode cX5_addCopy 23 = .ok (.aload_n 2, 1) := by decide +kernel
theorem dX5_addCopy_24 : decode cX5_addCopy 24 = .ok (.getfield 191, 3) := by decide +kernel
theorem dX5_addCopy_27 : decode cX5_addCopy 27 = .ok (.invokevirtual 192, 3) := by decide +kernel
theorem dX5_addCopy_30 : decode cX5_addCopy 30 = .ok (.astore 5, 2) := by decide +kernel
theorem dX5_addCopy_32 : decode cX5_addCopy 32 = .ok (.aload 5, 2) := by decide +kernel
theorem dX5_addCopy_34 : decode cX5_addCopy 34 = .ok (.ifnonnull 11, 3) := by decide +kernel
theorem dX5_addCopy_37 : decode cX5_addCopy 37 = .ok (.bipush (-10), 2) := by decide +kernel
theorem dX5_addCopy_39 : decode cX5_addCopy 39 = .ok (.aload_n 2, 1) := by decide +kernel
theorem dX5_addCopy_40 : decode cX5_addCopy 40 = .ok (.getfield 168, 3) := by decide +kernel
theorem dX5_addCopy_43 : decode cX5_addCopy 43 = .ok (.isub, 1) := by decide +kernel
theorem dX5_addCopy_44 : decode cX5_addCopy 44 = .ok (.ireturn, 1) := by decide +kernel
theorem dX5_addCopy_45 : decode cX5_addCopy 45 = .ok (.aload_n 0, 1) := by decide +kernel
theorem dX5_addCopy_46 : decode cX5_addCopy 46 = .ok (.aload 5, 2) := by decide +kernel
theorem dX5_addCopy_48 : decode cX5_addCopy 48 = .ok (.iload_n 3, 1) := by decide +kernel
theorem dX5_addCopy_49 : decode cX5_addCopy 49 = .ok (.invokevirtual 195, 3) := by decide +kernel
theorem dX5_addCopy_52 : decode cX5_addCopy 52 = .ok (.ifCond .eq 5, 3) := by decide +kernel
theorem dX5_addCopy_55 : decode cX5_addCopy 55 = .ok (.iconst (-1), 1) := by decide +kernel
theorem dX5_addCopy_56 : decode cX5_addCopy 56 = .ok (.ireturn, 1) := by decide +kernel
theorem dX5_addCopy_57 : decode cX5_addCopy 57 = .ok (.aload_n 0, 1) := by decide +kernel
theorem dX5_addCopy_58 : decode cX5_addCopy 58 = .ok (.aload 5, 2) := by decide +kernel
theorem dX5_addCopy_60 : decode cX5_addCopy 60 = .ok (.iload_n 3, 1) := by decide +kernel
theorem dX5_addCopy_61 : decode cX5_addCopy 61 = .ok (.iconst 1, 1) := by decide +kernel
theorem dX5_addCopy_62 : decode cX5_addCopy 62 = .ok (.iadd, 1) := by decide +kernel
theorem dX5_addCopy_63 : decode cX5_addCopy 63 = .ok (.iload 4, 2) := by decide +kernel
theorem dX5_addCopy_65 : decode cX5_addCopy 65 = .ok (.ifCond .ne 10, 3) := by decide +kernel
theorem dX5_addCopy_68 : decode cX5_addCopy 68 = .ok (.aload_n 2, 1) := by decide +kernel
theorem dX5_addCopy_69 : decode cX5_addCopy 69 = .ok (.getfield 199, 3) := by decide +kernel
theorem dX5_addCopy_72 : decode cX5_addCopy 72 = .ok (.ifCond .eq 7, 3) := by decide +kernel
theorem dX5_addCopy_75 : decode cX5_addCopy 75 = .ok (.iconst 1, 1) := by decide +kernel
theorem dX5_addCopy_76 : decode cX5_addCopy 76 = .ok (.goto 4, 3) := by decide +kernel
theorem dX5_addCopy_79 : decode cX5_addCopy 79 = .ok (.iconst 0, 1) := by decide +kernel
theorem dX5_addCopy_80 : decode cX5_addCopy 80 = .ok (.invokevirtual 127, 3) := by decide +kernel
theorem dX5_addCopy_83 : decode cX5_addCopy 83 = .ok (.istore 6, 2) := by decide +kernel
theorem dX5_addCopy_85 : decode cX5_addCopy 85 = .ok (.iload 6, 2) := by decide +kernel
theorem dX5_addCopy_87 : decode cX5_addCopy 87 = .ok (.ifCond .eq 6, 3) := by decide +kernel
theorem dX5_addCopy_90 : decode cX5_addCopy 90 = .ok (.iload 6, 2) := by decide +kernel
theorem dX5_addCopy_92 : decode cX5_addCopy 92 = .ok (.ireturn, 1) := by decide +kernel
theorem dX5_addCopy_93 : decode cX5_addCopy 93 = .ok (.aload_n 0, 1) := by decide +kernel
theorem dX5_addCopy_94 : decode cX5_addCopy 94 = .ok (.getfield 33, 3) := by decide +kernel
theorem dX5_addCopy_97 : decode cX5_addCopy 97 = .ok (.invokevirtual 114, 3) := by decide +kernel
theorem dX5_addCopy_100 : decode cX5_addCopy 100 = .ok (.aload_n 0, 1) := by decide +kernel
theorem dX5_addCopy_101 : decode cX5_addCopy 101 = .ok (.aload 5, 2) := by decide +kernel
theorem dX5_addCopy_103 : decode cX5_addCopy 103 = .ok (.getfield 131, 3) := by decide +kernel
theorem dX5_addCopy_106 : decode cX5_addCopy 106 = .ok (.iconst 0, 1) := by decide +kernel
theorem dX5_addCopy_107 : decode cX5_addCopy 107 = .ok (.aload 5, 2) := by decide +kernel
theorem dX5_addCopy_109 : decode cX5_addCopy 109 = .ok (.getfield 131, 3) := by decide +kernel
theorem dX5_addCopy_112 : decode cX5_addCopy 112 = .ok (.getfield 126, 3) := by decide +kernel
theorem dX5_addCopy_115 : decode cX5_addCopy 115 = .ok (.aload_n 2, 1) := by decide +kernel
theorem dX5_addCopy_116 : decode cX5_addCopy 116 = .ok (.aload_n 0, 1) := by decide +kernel
theorem dX5_addCopy_117 : decode cX5_addCopy 117 = .ok (.getfield 33, 3) := by decide +kernel
theorem dX5_addCopy_120 : decode cX5_addCopy 120 = .ok (.invokevirtual 201, 3) := by decide +kernel
theorem dX5_addCopy_123 : decode cX5_addCopy 123 = .ok (.istore 6, 2) := by decide +kernel
theorem dX5_addCopy_125 : decode cX5_addCopy 125 = .ok (.iload 6, 2) := by decide +kernel
theorem dX5_addCopy_127 : decode cX5_addCopy 127 = .ok (.ifCond .eq 6, 3) := by decide +kernel
theorem dX5_addCopy_130 : decode cX5_addCopy 130 = .ok (.iload 6, 2) := by decide +kernel
theorem dX5_addCopy_132 : decode cX5_addCopy 132 = .ok (.ireturn, 1) := by decide +kernel
theorem dX5_addCopy_133 : decode cX5_addCopy 133 = .ok (.aload_n 1, 1) := by decide +kernel
theorem dX5_addCopy_134 : decode cX5_addCopy 134 = .ok (.aload_n 0, 1) := by decide +kernel
theorem dX5_addCopy_135 : decode cX5_addCopy 135 = .ok (.getfield 33, 3) := by decide +kernel
theorem dX5_addCopy_138 : decode cX5_addCopy 138 = .ok (.invokevirtual 205, 3) := by decide +kernel
theorem dX5_addCopy_141 : decode cX5_addCopy 141 = .ok (.ifCond .eq 7, 3) := by decide +kernel
theorem dX5_addCopy_144 : decode cX5_addCopy 144 = .ok (.iconst 0, 1) := by decide +kernel
theorem dX5_addCopy_145 : decode cX5_addCopy 145 = .ok (.goto 5, 3) := by decide +kernel
theorem dX5_addCopy_148 : decode cX5_addCopy 148 = .ok (.bipush (-3), 2) := by decide +kernel
theorem dX5_addCopy_150 : decode cX5_addCopy 150 = .ok (.ireturn, 1) := by decide +kernel
theorem dX5_closesRing_0 : decode cX5_closesRing 0 = .ok (.iconst 0, 1) := by decide +kernel
theorem dX5_closesRing_1 : decode cX5_closesRing 1 = .ok (.istore_n 3, 1) := by decide +kernel
theorem dX5_closesRing_2 : decode cX5_closesRing 2 = .ok (.iload_n 3, 1) := by decide +kernel
theorem dX5_closesRing_3 : decode cX5_closesRing 3 = .ok (.iload_n 2, 1) := by decide +kernel
theorem dX5_closesRing_4 : decode cX5_closesRing 4 = .ok (.if_icmp .gt 45, 3) := by decide +kernel
theorem dX5_closesRing_7 : decode cX5_closesRing 7 = .ok (.iload_n 3, 1) := by decide +kernel
theorem dX5_closesRing_8 : decode cX5_closesRing 8 = .ok (.aload_n 0, 1) := by decide +kernel
theorem dX5_closesRing_9 : decode cX5_closesRing 9 = .ok (.getfield 27, 3) := by decide +kernel
theorem dX5_closesRing_12 : decode cX5_closesRing 12 = .ok (.arraylength, 1) := by decide +kernel
theorem dX5_closesRing_13 : decode cX5_closesRing 13 = .ok (.if_icmp .ge 36, 3) := by decide +kernel
theorem dX5_closesRing_16 : decode cX5_closesRing 16 = .ok (.aload_n 0, 1) := by decide +kernel
theorem dX5_closesRing_17 : decode cX5_closesRing 17 = .ok (.getfield 27, 3) := by decide +kernel
theorem dX5_closesRing_20 : decode cX5_closesRing 20 = .ok (.iload_n 3, 1) := by decide +kernel
theorem dX5_closesRing_21 : decode cX5_closesRing 21 = .ok (.aaload, 1) := by decide +kernel
theorem dX5_closesRing_22 : decode cX5_closesRing 22 = .ok (.astore 4, 2) := by decide +kernel
theorem dX5_closesRing_24 : decode cX5_closesRing 24 = .ok (.aload 4, 2) := by decide +kernel
theorem dX5_closesRing_26 : decode cX5_closesRing 26 = .ok (.aload_n 1, 1) := by decide +kernel
theorem dX5_closesRing_27 : decode cX5_closesRing 27 = .ok (.if_acmp .eq 10, 3) := by decide +kernel
theorem dX5_closesRing_30 : decode cX5_closesRing 30 = .ok (.aload_n 0, 1) := by decide +kernel
theorem dX5_closesRing_31 : decode cX5_closesRing 31 = .ok (.getfield 117, 3) := by decide +kernel
theorem dX5_closesRing_34 : decode cX5_closesRing 34 = .ok (.ifCond .le 9, 3) := by decide +kernel
theorem dX5_closesRing_37 : decode cX5_closesRing 37 = .ok (.aload_n 0, 1) := by decide +kernel
theorem dX5_closesRing_38 : decode cX5_closesRing 38 = .ok (.aload 4, 2) := by decide +kernel
theorem dX5_closesRing_40 : decode cX5_closesRing 40 = .ok (.invokevirtual 209, 3) := by decide +kernel
theorem dX5_closesRing_43 : decode cX5_closesRing 43 = .ok (.iinc 3 1, 3) := by decide +kernel
theorem dX5_closesRing_46 : decode cX5_closesRing 46 = .ok (.goto (-44), 3) := by decide +kernel
theorem dX5_closesRing_49 : decode cX5_closesRing 49 = .ok (.aload_n 0, 1) := by decide +kernel
theorem dX5_closesRing_50 : decode cX5_closesRing 50 = .ok (.getfield 117, 3) := by decide +kernel
theorem dX5_closesRing_53 : decode cX5_closesRing 53 = .ok (.ifCond .le 7, 3) := by decide +kernel
theorem dX5_closesRing_56 : decode cX5_closesRing 56 = .ok (.iconst 1, 1) := by decide +kernel
theorem dX5_closesRing_57 : decode cX5_closesRing 57 = .ok (.goto 4, 3) := by decide +kernel
theorem dX5_closesRing_60 : decode cX5_closesRing 60 = .ok (.iconst 0, 1) := by decide +kernel
theorem dX5_closesRing_61 : decode cX5_closesRing 61 = .ok (.ireturn, 1) := by decide +kernel
theorem dX5_keepRingName_0 : decode cX5_keepRingName 0 = .ok (.aload_n 1, 1) := by decide +kernel
theorem dX5_keepRingName_1 : decode cX5_keepRingName 1 = .ok (.ifnull 38, 3) := by decide +kernel
theorem dX5_keepRingName_4 : decode cX5_keepRingName 4 = .ok (.aload_n 0, 1) := by decide +kernel
theorem dX5_keepRingName_5 : decode cX5_keepRingName 5 = .ok (.getfield 117, 3) := by decide +kernel
theorem dX5_keepRingName_8 : decode cX5_keepRingName 8 = .ok (.aload_n 0, 1) := by decide +kernel
theorem dX5_keepRingName_9 : decode cX5_keepRingName 9 = .ok (.getfield 40, 3) := by decide +kernel
theorem dX5_keepRingName_12 : decode cX5_keepRingName 12 = .ok (.arraylength, 1) := by decide +kernel
theorem dX5_keepRingName_13 : decode cX5_keepRingName 13 = .ok (.if_icmp .ge 26, 3) := by decide +kernel
theorem dX5_keepRingName_16 : decode cX5_keepRingName 16 = .ok (.aload_n 0, 1) := by decide +kernel
theorem dX5_keepRingName_17 : decode cX5_keepRingName 17 = .ok (.getfield 40, 3) := by decide +kernel
theorem dX5_keepRingName_20 : decode cX5_keepRingName 20 = .ok (.aload_n 0, 1) := by decide +kernel
theorem dX5_keepRingName_21 : decode cX5_keepRingName 21 = .ok (.getfield 117, 3) := by decide +kernel
theorem dX5_keepRingName_24 : decode cX5_keepRingName 24 = .ok (.aload_n 1, 1) := by decide +kernel
theorem dX5_keepRingName_25 : decode cX5_keepRingName 25 = .ok (.getfield 169, 3) := by decide +kernel
theorem dX5_keepRingName_28 : decode cX5_keepRingName 28 = .ok (.iastore, 1) := by decide +kernel
theorem dX5_keepRingName_29 : decode cX5_keepRingName 29 = .ok (.aload_n 0, 1) := by decide +kernel
theorem dX5_keepRingName_30 : decode cX5_keepRingName 30 = .ok (.dup, 1) := by decide +kernel
theorem dX5_keepRingName_31 : decode cX5_keepRingName 31 = .ok (.getfield 117, 3) := by decide +kernel
theorem dX5_keepRingName_34 : decode cX5_keepRingName 34 = .ok (.iconst 1, 1) := by decide +kernel
theorem dX5_keepRingName_35 : decode cX5_keepRingName 35 = .ok (.iadd, 1) := by decide +kernel
theorem dX5_keepRingName_36 : decode cX5_keepRingName 36 = .ok (.putfield 117, 3) := by decide +kernel
theorem dX5_keepRingName_39 : decode cX5_keepRingName 39 = .ok (.return_, 1) := by decide +kernel
theorem dX5_matchByReplaces_0 : decode cX5_matchByReplaces 0 = .ok (.aconst_null, 1) := by decide +kernel
theorem dX5_matchByReplaces_1 : decode cX5_matchByReplaces 1 = .ok (.astore_n 2, 1) := by decide +kernel
theorem dX5_matchByReplaces_2 : decode cX5_matchByReplaces 2 = .ok (.iconst 0, 1) := by decide +kernel
theorem dX5_matchByReplaces_3 : decode cX5_matchByReplaces 3 = .ok (.istore_n 3, 1) := by decide +kernel
theorem dX5_matchByReplaces_4 : decode cX5_matchByReplaces 4 = .ok (.iconst 0, 1) := by decide +kernel
theorem dX5_matchByReplaces_5 : decode cX5_matchByReplaces 5 = .ok (.istore 4, 2) := by decide +kernel
theorem dX5_matchByReplaces_7 : decode cX5_matchByReplaces 7 = .ok (.iload 4, 2) := by decide +kernel
theorem dX5_matchByReplaces_9 : decode cX5_matchByReplaces 9 = .ok (.aload_n 1, 1) := by decide +kernel
theorem dX5_matchByReplaces_10 : decode cX5_matchByReplaces 10 = .ok (.getfield 126, 3) := by decide +kernel
theorem dX5_matchByReplaces_13 : decode cX5_matchByReplaces 13 = .ok (.if_icmp .gt 91, 3) := by decide +kernel
theorem dX5_matchByReplaces_16 : decode cX5_matchByReplaces 16 = .ok (.iload 4, 2) := by decide +kernel
theorem dX5_matchByReplaces_18 : decode cX5_matchByReplaces 18 = .ok (.aload_n 1, 1) := by decide +kernel
theorem dX5_matchByReplaces_19 : decode cX5_matchByReplaces 19 = .ok (.getfield 126, 3) := by decide +kernel
theorem dX5_matchByReplaces_22 : decode cX5_matchByReplaces 22 = .ok (.if_icmp .ne 7, 3) := by decide +kernel
theorem dX5_matchByReplaces_25 : decode cX5_matchByReplaces 25 = .ok (.iconst 1, 1) := by decide +kernel
theorem dX5_matchByReplaces_26 : decode cX5_matchByReplaces 26 = .ok (.goto 4, 3) := by decide +kernel
theorem dX5_matchByReplaces_29 : decode cX5_matchByReplaces 29 = .ok (.iconst 0, 1) := by decide +kernel
theorem dX5_matchByReplaces_30 : decode cX5_matchByReplaces 30 = .ok (.istore 5, 2) := by decide +kernel
theorem dX5_matchByReplaces_32 : decode cX5_matchByReplaces 32 = .ok (.iload 5, 2) := by decide +kernel
theorem dX5_matchByReplaces_34 : decode cX5_matchByReplaces 34 = .ok (.ifCond .ne 16, 3) := by decide +kernel
theorem dX5_matchByReplaces_37 : decode cX5_matchByReplaces 37 = .ok (.aload_n 1, 1) := by decide +kernel
theorem dX5_matchByReplaces_38 : decode cX5_matchByReplaces 38 = .ok (.iload 4, 2) := by decide +kernel
theorem dX5_matchByReplaces_40 : decode cX5_matchByReplaces 40 = .ok (.invokevirtual 144, 3) := by decide +kernel
theorem dX5_matchByReplaces_43 : decode cX5_matchByReplaces 43 = .ok (.iconst (-1), 1) := by decide +kernel
theorem dX5_matchByReplaces_44 : decode cX5_matchByReplaces 44 = .ok (.if_icmp .lt 6, 3) := by decide +kernel
theorem dX5_matchByReplaces_47 : decode cX5_matchByReplaces 47 = .ok (.goto 51, 3) := by decide +kernel
theorem dX5_matchByReplaces_50 : decode cX5_matchByReplaces 50 = .ok (.aload_n 0, 1) := by decide +kernel
theorem dX5_matchByReplaces_51 : decode cX5_matchByReplaces 51 = .ok (.aload_n 1, 1) := by decide +kernel
theorem dX5_matchByReplaces_52 : decode cX5_matchByReplaces 52 = .ok (.iload_n 3, 1) := by decide +kernel
theorem dX5_matchByReplaces_53 : decode cX5_matchByReplaces 53 = .ok (.iload 4, 2) := by decide +kernel
theorem dX5_matchByReplaces_55 : decode cX5_matchByReplaces 55 = .ok (.aload_n 2, 1) := by decide +kernel
theorem dX5_matchByReplaces_56 : decode cX5_matchByReplaces 56 = .ok (.aload_n 0, 1) := by decide +kernel
theorem dX5_matchByReplaces_57 : decode cX5_matchByReplaces 57 = .ok (.getfield 37, 3) := by decide +kernel
theorem dX5_matchByReplaces_60 : decode cX5_matchByReplaces 60 = .ok (.invokevirtual 201, 3) := by decide +kernel
theorem dX5_matchByReplaces_63 : decode cX5_matchByReplaces 63 = .ok (.istore 6, 2) := by decide +kernel
theorem dX5_matchByReplaces_65 : decode cX5_matchByReplaces 65 = .ok (.iload 6, 2) := by decide +kernel
theorem dX5_matchByReplaces_67 : decode cX5_matchByReplaces 67 = .ok (.ifCond .eq 6, 3) := by decide +kernel
theorem dX5_matchByReplaces_70 : decode cX5_matchByReplaces 70 = .ok (.iload 6, 2) := by decide +kernel
theorem dX5_matchByReplaces_72 : decode cX5_matchByReplaces 72 = .ok (.ireturn, 1) := by decide +kernel
theorem dX5_matchByReplaces_73 : decode cX5_matchByReplaces 73 = .ok (.iload 5, 2) := by decide +kernel
theorem dX5_matchByReplaces_75 : decode cX5_matchByReplaces 75 = .ok (.ifCond .eq 7, 3) := by decide +kernel
theorem dX5_matchByReplaces_78 : decode cX5_matchByReplaces 78 = .ok (.aconst_null, 1) := by decide +kernel
theorem dX5_matchByReplaces_79 : decode cX5_matchByReplaces 79 = .ok (.goto 13, 3) := by decide +kernel
theorem dX5_matchByReplaces_82 : decode cX5_matchByReplaces 82 = .ok (.aload_n 0, 1) := by decide +kernel
theorem dX5_matchByReplaces_83 : decode cX5_matchByReplaces 83 = .ok (.aload_n 1, 1) := by decide +kernel
theorem dX5_matchByReplaces_84 : decode cX5_matchByReplaces 84 = .ok (.iload 4, 2) := by decide +kernel
theorem dX5_matchByReplaces_86 : decode cX5_matchByReplaces 86 = .ok (.invokevirtual 144, 3) := by decide +kernel
theorem dX5_matchByReplaces_89 : decode cX5_matchByReplaces 89 = .ok (.invokevirtual 175, 3) := by decide +kernel
theorem dX5_matchByReplaces_92 : decode cX5_matchByReplaces 92 = .ok (.astore_n 2, 1) := by decide +kernel
theorem dX5_matchByReplaces_93 : decode cX5_matchByReplaces 93 = .ok (.iload 4, 2) := by decide +kernel
theorem dX5_matchByReplaces_95 : decode cX5_matchByReplaces 95 = .ok (.iconst 1, 1) := by decide +kernel
theorem dX5_matchByReplaces_96 : decode cX5_matchByReplaces 96 = .ok (.iadd, 1) := by decide +kernel
theorem dX5_matchByReplaces_97 : decode cX5_matchByReplaces 97 = .ok (.istore_n 3, 1) := by decide +kernel
theorem dX5_matchByReplaces_98 : decode cX5_matchByReplaces 98 = .ok (.iinc 4 1, 3) := by decide +kernel
theorem dX5_matchByReplaces_101 : decode cX5_matchByReplaces 101 = .ok (.goto (-94), 3) := by decide +kernel
theorem dX5_matchByReplaces_104 : decode cX5_matchByReplaces 104 = .ok (.iconst 0, 1) := by decide +kernel
theorem dX5_matchByReplaces_105 : decode cX5_matchByReplaces 105 = .ok (.ireturn, 1) := by decide +kernel
theorem dX5_matchPart_0 : decode cX5_matchPart 0 = .ok (.iload_n 2, 1) := by decide +kernel
theorem dX5_matchPart_1 : decode cX5_matchPart 1 = .ok (.istore 6, 2) := by decide +kernel
theorem dX5_matchPart_3 : decode cX5_matchPart 3 = .ok (.iload_n 2, 1) := by decide +kernel
theorem dX5_matchPart_4 : decode cX5_matchPart 4 = .ok (.istore 7, 2) := by decide +kernel
theorem dX5_matchPart_6 : decode cX5_matchPart 6 = .ok (.iload 7, 2) := by decide +kernel
theorem dX5_matchPart_8 : decode cX5_matchPart 8 = .ok (.iload_n 3, 1) := by decide +kernel
theorem dX5_matchPart_9 : decode cX5_matchPart 9 = .ok (.if_icmp .ge 41, 3) := by decide +kernel
theorem dX5_matchPart_12 : decode cX5_matchPart 12 = .ok (.iload 7, 2) := by decide +kernel
theorem dX5_matchPart_14 : decode cX5_matchPart 14 = .ok (.iload 6, 2) := by decide +kernel
theorem dX5_matchPart_16 : decode cX5_matchPart 16 = .ok (.if_icmp .ge 6, 3) := by decide +kernel
theorem dX5_matchPart_19 : decode cX5_matchPart 19 = .ok (.goto 25, 3) := by decide +kernel
theorem dX5_matchPart_22 : decode cX5_matchPart 22 = .ok (.aload_n 0, 1) := by decide +kernel
theorem dX5_matchPart_23 : decode cX5_matchPart 23 = .ok (.aload_n 1, 1) := by decide +kernel
theorem dX5_matchPart_24 : decode cX5_matchPart 24 = .ok (.iload 7, 2) := by decide +kernel
theorem dX5_matchPart_26 : decode cX5_matchPart 26 = .ok (.iload_n 3, 1) := by decide +kernel
theorem dX5_matchPart_27 : decode cX5_matchPart 27 = .ok (.aload 4, 2) := by decide +kernel
theorem dX5_matchPart_29 : decode cX5_matchPart 29 = .ok (.aload 5, 2) := by decide +kernel
theorem dX5_matchPart_31 : decode cX5_matchPart 31 = .ok (.invokevirtual 213, 3) := by decide +kernel
theorem dX5_matchPart_34 : decode cX5_matchPart 34 = .ok (.istore 6, 2) := by decide +kernel
theorem dX5_matchPart_36 : decode cX5_matchPart 36 = .ok (.iload 6, 2) := by decide +kernel
theorem dX5_matchPart_38 : decode cX5_matchPart 38 = .ok (.ifCond .ge 6, 3) := by decide +kernel
theorem dX5_matchPart_41 : decode cX5_matchPart 41 = .ok (.iload 6, 2) := by decide +kernel
theorem dX5_matchPart_43 : decode cX5_matchPart 43 = .ok (.ireturn, 1) := by decide +kernel
theorem dX5_matchPart_44 : decode cX5_matchPart 44 = .ok (.iinc 7 1, 3) := by decide +kernel
theorem dX5_matchPart_47 : decode cX5_matchPart 47 = .ok (.goto (-41), 3) := by decide +kernel
theorem dX5_matchPart_50 : decode cX5_matchPart 50 = .ok (.iconst 0, 1) := by decide +kernel
theorem dX5_matchPart_51 : decode cX5_matchPart 51 = .ok (.ireturn, 1) := by decide +kernel
theorem dX5_matchAt_0 : decode cX5_matchAt 0 = .ok (.aload 4, 2) := by decide +kernel
theorem dX5_matchAt_2 : decode cX5_matchAt 2 = .ok (.ifnull 11, 3) := by decide +kernel
theorem dX5_matchAt_5 : decode cX5_matchAt 5 = .ok (.aload_n 1, 1) := by decide +kernel
theorem dX5_matchAt_6 : decode cX5_matchAt 6 = .ok (.iload_n 2, 1) := by decide +kernel
theorem dX5_matchAt_7 : decode cX5_matchAt 7 = .ok (.invokevirtual 144, 3) := by decide +kernel
theorem dX5_matchAt_10 : decode cX5_matchAt 10 = .ok (.ifCond .gt 7, 3) := by decide +kernel
theorem dX5_matchAt_13 : decode cX5_matchAt 13 = .ok (.iconst 0, 1) := by decide +kernel
theorem dX5_matchAt_14 : decode cX5_matchAt 14 = .ok (.goto 8, 3) := by decide +kernel
theorem dX5_matchAt_17 : decode cX5_matchAt 17 = .ok (.aload 4, 2) := by decide +kernel
theorem dX5_matchAt_19 : decode cX5_matchAt 19 = .ok (.getfield 82, 3) := by decide +kernel
theorem dX5_matchAt_22 : decode cX5_matchAt 22 = .ok (.istore 6, 2) := by decide +kernel
theorem dX5_matchAt_24 : decode cX5_matchAt 24 = .ok (.iconst 0, 1) := by decide +kernel
theorem dX5_matchAt_25 : decode cX5_matchAt 25 = .ok (.istore 7, 2) := by decide +kernel
theorem dX5_matchAt_27 : decode cX5_matchAt 27 = .ok (.iload 7, 2) := by decide +kernel
theorem dX5_matchAt_29 : decode cX5_matchAt 29 = .ok (.iload 6, 2) := by decide +kernel
theorem dX5_matchAt_31 : decode cX5_matchAt 31 = .ok (.if_icmp .ge 77, 3) := by decide +kernel
theorem dX5_matchAt_34 : decode cX5_matchAt 34 = .ok (.aload 4, 2) := by decide +kernel
theorem dX5_matchAt_36 : decode cX5_matchAt 36 = .ok (.iload 7, 2) := by decide +kernel
theorem dX5_matchAt_38 : decode cX5_matchAt 38 = .ok (.invokevirtual 216, 3) := by decide +kernel
theorem dX5_matchAt_41 : decode cX5_matchAt 41 = .ok (.astore 8, 2) := by decide +kernel
theorem dX5_matchAt_43 : decode cX5_matchAt 43 = .ok (.aload 8, 2) := by decide +kernel
theorem dX5_matchAt_45 : decode cX5_matchAt 45 = .ok (.ifnonnull 7, 3) := by decide +kernel
theorem dX5_matchAt_48 : decode cX5_matchAt 48 = .ok (.iconst (-1), 1) := by decide +kernel
theorem dX5_matchAt_49 : decode cX5_matchAt 49 = .ok (.goto 11, 3) := by decide +kernel
theorem dX5_matchAt_52 : decode cX5_matchAt 52 = .ok (.aload 8, 2) := by decide +kernel
theorem dX5_matchAt_54 : decode cX5_matchAt 54 = .ok (.aload_n 1, 1) := by decide +kernel
theorem dX5_matchAt_55 : decode cX5_matchAt 55 = .ok (.iload_n 2, 1) := by decide +kernel
theorem dX5_matchAt_56 : decode cX5_matchAt 56 = .ok (.iload_n 3, 1) := by decide +kernel
theorem dX5_matchAt_57 : decode cX5_matchAt 57 = .ok (.invokestatic 219, 3) := by decide +kernel
theorem dX5_matchAt_60 : decode cX5_matchAt 60 = .ok (.istore 9, 2) := by decide +kernel
theorem dX5_matchAt_62 : decode cX5_matchAt 62 = .ok (.iload 9, 2) := by decide +kernel
theorem dX5_matchAt_64 : decode cX5_matchAt 64 = .ok (.iload_n 2, 1) := by decide +kernel
theorem dX5_matchAt_65 : decode cX5_matchAt 65 = .ok (.if_icmp .le 37, 3) := by decide +kernel
theorem dX5_matchAt_68 : decode cX5_matchAt 68 = .ok (.aload_n 0, 1) := by decide +kernel
theorem dX5_matchAt_69 : decode cX5_matchAt 69 = .ok (.dup, 1) := by decide +kernel
theorem dX5_matchAt_70 : decode cX5_matchAt 70 = .ok (.getfield 123, 3) := by decide +kernel
theorem dX5_matchAt_73 : decode cX5_matchAt 73 = .ok (.iconst 1, 1) := by decide +kernel
theorem dX5_matchAt_74 : decode cX5_matchAt 74 = .ok (.iadd, 1) := by decide +kernel
theorem dX5_matchAt_75 : decode cX5_matchAt 75 = .ok (.putfield 123, 3) := by decide +kernel
theorem dX5_matchAt_78 : decode cX5_matchAt 78 = .ok (.aload 8, 2) := by decide +kernel
theorem dX5_matchAt_80 : decode cX5_matchAt 80 = .ok (.aload_n 1, 1) := by decide +kernel
theorem dX5_matchAt_81 : decode cX5_matchAt 81 = .ok (.iload_n 2, 1) := by decide +kernel
theorem dX5_matchAt_82 : decode cX5_matchAt 82 = .ok (.aload 5, 2) := by decide +kernel
theorem dX5_matchAt_84 : decode cX5_matchAt 84 = .ok (.invokestatic 223, 3) := by decide +kernel
theorem dX5_matchAt_87 : decode cX5_matchAt 87 = .ok (.istore 10, 2) := by decide +kernel
theorem dX5_matchAt_89 : decode cX5_matchAt 89 = .ok (.iload 10, 2) := by decide +kernel
theorem dX5_matchAt_91 : decode cX5_matchAt 91 = .ok (.ifCond .ne 8, 3) := by decide +kernel
theorem dX5_matchAt_94 : decode cX5_matchAt 94 = .ok (.iload 9, 2) := by decide +kernel
theorem dX5_matchAt_96 : decode cX5_matchAt 96 = .ok (.goto 5, 3) := by decide +kernel
theorem dX5_matchAt_99 : decode cX5_matchAt 99 = .ok (.iload 10, 2) := by decide +kernel
theorem dX5_matchAt_101 : decode cX5_matchAt 101 = .ok (.ireturn, 1) := by decide +kernel
theorem dX5_matchAt_102 : decode cX5_matchAt 102 = .ok (.iinc 7 1, 3) := by decide +kernel
theorem dX5_matchAt_105 : decode cX5_matchAt 105 = .ok (.goto (-78), 3) := by decide +kernel
theorem dX5_matchAt_108 : decode cX5_matchAt 108 = .ok (.aload 5, 2) := by decide +kernel
theorem dX5_matchAt_110 : decode cX5_matchAt 110 = .ok (.aload_n 1, 1) := by decide +kernel
theorem dX5_matchAt_111 : decode cX5_matchAt 111 = .ok (.iload_n 2, 1) := by decide +kernel
theorem dX5_matchAt_112 : decode cX5_matchAt 112 = .ok (.invokevirtual 227, 3) := by decide +kernel
theorem dX5_matchAt_115 : decode cX5_matchAt 115 = .ok (.ifCond .eq 9, 3) := by decide +kernel
theorem dX5_matchAt_118 : decode cX5_matchAt 118 = .ok (.iload_n 2, 1) := by decide +kernel
theorem dX5_matchAt_119 : decode cX5_matchAt 119 = .ok (.iconst 1, 1) := by decide +kernel
theorem dX5_matchAt_120 : decode cX5_matchAt 120 = .ok (.iadd, 1) := by decide +kernel
theorem dX5_matchAt_121 : decode cX5_matchAt 121 = .ok (.goto 5, 3) := by decide +kernel
theorem dX5_matchAt_124 : decode cX5_matchAt 124 = .ok (.bipush (-3), 2) := by decide +kernel
theorem dX5_matchAt_126 : decode cX5_matchAt 126 = .ok (.ireturn, 1) := by decide +kernel
theorem dX5_behindMatch_0 : decode cX5_behindMatch 0 = .ok (.aload_n 0, 1) := by decide +kernel
theorem dX5_behindMatch_1 : decode cX5_behindMatch 1 = .ok (.getfield 103, 3) := by decide +kernel
theorem dX5_behindMatch_4 : decode cX5_behindMatch 4 = .ok (.ifCond .eq 23, 3) := by decide +kernel
theorem dX5_behindMatch_7 : decode cX5_behindMatch 7 = .ok (.aload_n 1, 1) := by decide +kernel
theorem dX5_behindMatch_8 : decode cX5_behindMatch 8 = .ok (.iload_n 2, 1) := by decide +kernel
theorem dX5_behindMatch_9 : decode cX5_behindMatch 9 = .ok (.invokevirtual 144, 3) := by decide +kernel
theorem dX5_behindMatch_12 : decode cX5_behindMatch 12 = .ok (.aload_n 0, 1) := by decide +kernel
theorem dX5_behindMatch_13 : decode cX5_behindMatch 13 = .ok (.invokestatic 231, 3) := by decide +kernel
theorem dX5_behindMatch_16 : decode cX5_behindMatch 16 = .ok (.ifCond .eq 9, 3) := by decide +kernel
theorem dX5_behindMatch_19 : decode cX5_behindMatch 19 = .ok (.iload_n 2, 1) := by decide +kernel
theorem dX5_behindMatch_20 : decode cX5_behindMatch 20 = .ok (.iconst 1, 1) := by decide +kernel
theorem dX5_behindMatch_21 : decode cX5_behindMatch 21 = .ok (.iadd, 1) := by decide +kernel
theorem dX5_behindMatch_22 : decode cX5_behindMatch 22 = .ok (.goto 4, 3) := by decide +kernel
theorem dX5_behindMatch_25 : decode cX5_behindMatch 25 = .ok (.iconst (-1), 1) := by decide +kernel
theorem dX5_behindMatch_26 : decode cX5_behindMatch 26 = .ok (.ireturn, 1) := by decide +kernel
theorem dX5_behindMatch_27 : decode cX5_behindMatch 27 = .ok (.iconst 0, 1) := by decide +kernel
theorem dX5_behindMatch_28 : decode cX5_behindMatch 28 = .ok (.istore 4, 2) := by decide +kernel
theorem dX5_behindMatch_30 : decode cX5_behindMatch 30 = .ok (.iload_n 2, 1) := by decide +kernel
theorem dX5_behindMatch_31 : decode cX5_behindMatch 31 = .ok (.istore 5, 2) := by decide +kernel
theorem dX5_behindMatch_33 : decode cX5_behindMatch 33 = .ok (.iload 5, 2) := by decide +kernel
theorem dX5_behindMatch_35 : decode cX5_behindMatch 35 = .ok (.iload_n 3, 1) := by decide +kernel
theorem dX5_behindMatch_36 : decode cX5_behindMatch 36 = .ok (.if_icmp .ge 67, 3) := by decide +kernel
theorem dX5_behindMatch_39 : decode cX5_behindMatch 39 = .ok (.aload_n 1, 1) := by decide +kernel
theorem dX5_behindMatch_40 : decode cX5_behindMatch 40 = .ok (.iload 5, 2) := by decide +kernel
theorem dX5_behindMatch_42 : decode cX5_behindMatch 42 = .ok (.invokevirtual 144, 3) := by decide +kernel
theorem dX5_behindMatch_45 : decode cX5_behindMatch 45 = .ok (.istore 6, 2) := by decide +kernel
theorem dX5_behindMatch_47 : decode cX5_behindMatch 47 = .ok (.iload 6, 2) := by decide +kernel
theorem dX5_behindMatch_49 : decode cX5_behindMatch 49 = .ok (.ifCond .eq 48, 3) := by decide +kernel
theorem dX5_behindMatch_52 : decode cX5_behindMatch 52 = .ok (.iload 6, 2) := by decide +kernel
theorem dX5_behindMatch_54 : decode cX5_behindMatch 54 = .ok (.iconst (-1), 1) := by decide +kernel
theorem dX5_behindMatch_55 : decode cX5_behindMatch 55 = .ok (.if_icmp .ne 6, 3) := by decide +kernel
theorem dX5_behindMatch_58 : decode cX5_behindMatch 58 = .ok (.goto 39, 3) := by decide +kernel
theorem dX5_behindMatch_61 : decode cX5_behindMatch 61 = .ok (.iload 6, 2) := by decide +kernel
theorem dX5_behindMatch_63 : decode cX5_behindMatch 63 = .ok (.aload_n 0, 1) := by decide +kernel
theorem dX5_behindMatch_64 : decode cX5_behindMatch 64 = .ok (.getfield 84, 3) := by decide +kernel
theorem dX5_behindMatch_67 : decode cX5_behindMatch 67 = .ok (.iload 4, 2) := by decide +kernel
theorem dX5_behindMatch_69 : decode cX5_behindMatch 69 = .ok (.invokevirtual 235, 3) := by decide +kernel
theorem dX5_behindMatch_72 : decode cX5_behindMatch 72 = .ok (.if_icmp .eq 5, 3) := by decide +kernel
theorem dX5_behindMatch_75 : decode cX5_behindMatch 75 = .ok (.iconst (-1), 1) := by decide +kernel
theorem dX5_behindMatch_76 : decode cX5_behindMatch 76 = .ok (.ireturn, 1) := by decide +kernel
theorem dX5_behindMatch_77 : decode cX5_behindMatch 77 = .ok (.iinc 4 1, 3) := by decide +kernel
theorem dX5_behindMatch_80 : decode cX5_behindMatch 80 = .ok (.iload 4, 2) := by decide +kernel
theorem dX5_behindMatch_82 : decode cX5_behindMatch 82 = .ok (.aload_n 0, 1) := by decide +kernel
theorem dX5_behindMatch_83 : decode cX5_behindMatch 83 = .ok (.getfield 84, 3) := by decide +kernel
theorem dX5_behindMatch_86 : decode cX5_behindMatch 86 = .ok (.getfield 110, 3) := by decide +kernel
theorem dX5_behindMatch_89 : decode cX5_behindMatch 89 = .ok (.if_icmp .ne 8, 3) := by decide +kernel
theorem dX5_behindMatch_92 : decode cX5_behindMatch 92 = .ok (.iload 5, 2) := by decide +kernel
theorem dX5_behindMatch_94 : decode cX5_behindMatch 94 = .ok (.iconst 1, 1) := by decide +kernel
theorem dX5_behindMatch_95 : decode cX5_behindMatch 95 = .ok (.iadd, 1) := by decide +kernel
theorem dX5_behindMatch_96 : decode cX5_behindMatch 96 = .ok (.ireturn, 1) := by decide +kernel
theorem dX5_behindMatch_97 : decode cX5_behindMatch 97 = .ok (.iinc 5 1, 3) := by decide +kernel
theorem dX5_behindMatch_100 : decode cX5_behindMatch 100 = .ok (.goto (-67), 3) := by decide +kernel
theorem dX5_behindMatch_103 : decode cX5_behindMatch 103 = .ok (.iconst (-1), 1) := by decide +kernel
theorem dX5_behindMatch_104 : decode cX5_behindMatch 104 = .ok (.ireturn, 1) := by decide +kernel
theorem dX5_put_0 : decode cX5_put 0 = .ok (.aload_n 0, 1) := by decide +kernel
theorem dX5_put_1 : decode cX5_put 1 = .ok (.getfield 103, 3) := by decide +kernel
theorem dX5_put_4 : decode cX5_put 4 = .ok (.ifCond .eq 44, 3) := by decide +kernel
theorem dX5_put_7 : decode cX5_put 7 = .ok (.aload_n 1, 1) := by decide +kernel
theorem dX5_put_8 : decode cX5_put 8 = .ok (.iload_n 2, 1) := by decide +kernel
theorem dX5_put_9 : decode cX5_put 9 = .ok (.invokevirtual 144, 3) := by decide +kernel
theorem dX5_put_12 : decode cX5_put 12 = .ok (.aload_n 0, 1) := by decide +kernel
theorem dX5_put_13 : decode cX5_put 13 = .ok (.invokestatic 237, 3) := by decide +kernel
theorem dX5_put_16 : decode cX5_put 16 = .ok (.istore 4, 2) := by decide +kernel
theorem dX5_put_18 : decode cX5_put 18 = .ok (.iload 4, 2) := by decide +kernel
theorem dX5_put_20 : decode cX5_put 20 = .ok (.ifCond .ge 6, 3) := by decide +kernel
theorem dX5_put_23 : decode cX5_put 23 = .ok (.iload 4, 2) := by decide +kernel
theorem dX5_put_25 : decode cX5_put 25 = .ok (.ireturn, 1) := by decide +kernel
theorem dX5_put_26 : decode cX5_put 26 = .ok (.aload_n 3, 1) := by decide +kernel
theorem dX5_put_27 : decode cX5_put 27 = .ok (.iload 4, 2) := by decide +kernel
theorem dX5_put_29 : decode cX5_put 29 = .ok (.aload_n 0, 1) := by decide +kernel
theorem dX5_put_30 : decode cX5_put 30 = .ok (.getfield 96, 3) := by decide +kernel
theorem dX5_put_33 : decode cX5_put 33 = .ok (.aload_n 1, 1) := by decide +kernel
theorem dX5_put_34 : decode cX5_put 34 = .ok (.iload_n 2, 1) := by decide +kernel
theorem dX5_put_35 : decode cX5_put 35 = .ok (.invokevirtual 241, 3) := by decide +kernel
theorem dX5_put_38 : decode cX5_put 38 = .ok (.ifCond .eq 7, 3) := by decide +kernel
theorem dX5_put_41 : decode cX5_put 41 = .ok (.iconst 0, 1) := by decide +kernel
theorem dX5_put_42 : decode cX5_put 42 = .ok (.goto 5, 3) := by decide +kernel
theorem dX5_put_45 : decode cX5_put 45 = .ok (.bipush (-3), 2) := by decide +kernel
theorem dX5_put_47 : decode cX5_put 47 = .ok (.ireturn, 1) := by decide +kernel
theorem dX5_put_48 : decode cX5_put 48 = .ok (.iconst 0, 1) := by decide +kernel
theorem dX5_put_49 : decode cX5_put 49 = .ok (.istore 4, 2) := by decide +kernel
theorem dX5_put_51 : decode cX5_put 51 = .ok (.iload 4, 2) := by decide +kernel
theorem dX5_put_53 : decode cX5_put 53 = .ok (.aload_n 0, 1) := by decide +kernel
theorem dX5_put_54 : decode cX5_put 54 = .ok (.getfield 111, 3) := by decide +kernel
theorem dX5_put_57 : decode cX5_put 57 = .ok (.getfield 110, 3) := by decide +kernel
theorem dX5_put_60 : decode cX5_put 60 = .ok (.if_icmp .ge 34, 3) := by decide +kernel
theorem dX5_put_63 : decode cX5_put 63 = .ok (.aload_n 3, 1) := by decide +kernel
theorem dX5_put_64 : decode cX5_put 64 = .ok (.aload_n 0, 1) := by decide +kernel
theorem dX5_put_65 : decode cX5_put 65 = .ok (.getfield 111, 3) := by decide +kernel
theorem dX5_put_68 : decode cX5_put 68 = .ok (.iload 4, 2) := by decide +kernel
theorem dX5_put_70 : decode cX5_put 70 = .ok (.invokevirtual 235, 3) := by decide +kernel
theorem dX5_put_73 : decode cX5_put 73 = .ok (.aload_n 0, 1) := by decide +kernel
theorem dX5_put_74 : decode cX5_put 74 = .ok (.getfield 96, 3) := by decide +kernel
theorem dX5_put_77 : decode cX5_put 77 = .ok (.aload_n 1, 1) := by decide +kernel
theorem dX5_put_78 : decode cX5_put 78 = .ok (.iload_n 2, 1) := by decide +kernel
theorem dX5_put_79 : decode cX5_put 79 = .ok (.invokevirtual 241, 3) := by decide +kernel
theorem dX5_put_82 : decode cX5_put 82 = .ok (.ifCond .ne 6, 3) := by decide +kernel
theorem dX5_put_85 : decode cX5_put 85 = .ok (.bipush (-3), 2) := by decide +kernel
theorem dX5_put_87 : decode cX5_put 87 = .ok (.ireturn, 1) := by decide +kernel
theorem dX5_put_88 : decode cX5_put 88 = .ok (.iinc 4 1, 3) := by decide +kernel
theorem dX5_put_91 : decode cX5_put 91 = .ok (.goto (-40), 3) := by decide +kernel
theorem dX5_put_94 : decode cX5_put 94 = .ok (.iconst 0, 1) := by decide +kernel
theorem dX5_put_95 : decode cX5_put 95 = .ok (.ireturn, 1) := by decide +kernel
theorem dX5_hasPart_0 : decode cX5_hasPart 0 = .ok (.aload_n 1, 1) := by decide +kernel
theorem dX5_hasPart_1 : decode cX5_hasPart 1 = .ok (.getfield 84, 3) := by decide +kernel
theorem dX5_hasPart_4 : decode cX5_hasPart 4 = .ok (.iconst 0, 1) := by decide +kernel
theorem dX5_hasPart_5 : decode cX5_hasPart 5 = .ok (.invokevirtual 235, 3) := by decide +kernel
theorem dX5_hasPart_8 : decode cX5_hasPart 8 = .ok (.istore_n 2, 1) := by decide +kernel
theorem dX5_hasPart_9 : decode cX5_hasPart 9 = .ok (.iload_n 0, 1) := by decide +kernel
theorem dX5_hasPart_10 : decode cX5_hasPart 10 = .ok (.invokestatic 245, 3) := by decide +kernel
theorem dX5_hasPart_13 : decode cX5_hasPart 13 = .ok (.iload_n 2, 1) := by decide +kernel
theorem dX5_hasPart_14 : decode cX5_hasPart 14 = .ok (.invokestatic 245, 3) := by decide +kernel
theorem dX5_hasPart_17 : decode cX5_hasPart 17 = .ok (.isub, 1) := by decide +kernel
theorem dX5_hasPart_18 : decode cX5_hasPart 18 = .ok (.istore_n 3, 1) := by decide +kernel
theorem dX5_hasPart_19 : decode cX5_hasPart 19 = .ok (.iload_n 3, 1) := by decide +kernel
theorem dX5_hasPart_20 : decode cX5_hasPart 20 = .ok (.ifCond .gt 5, 3) := by decide +kernel
theorem dX5_hasPart_23 : decode cX5_hasPart 23 = .ok (.iconst 0, 1) := by decide +kernel
theorem dX5_hasPart_24 : decode cX5_hasPart 24 = .ok (.ireturn, 1) := by decide +kernel
theorem dX5_hasPart_25 : decode cX5_hasPart 25 = .ok (.aload_n 1, 1) := by decide +kernel
theorem dX5_hasPart_26 : decode cX5_hasPart 26 = .ok (.getfield 103, 3) := by decide +kernel
theorem dX5_hasPart_29 : decode cX5_hasPart 29 = .ok (.iconst 1, 1) := by decide +kernel
theorem dX5_hasPart_30 : decode cX5_hasPart 30 = .ok (.if_icmp .ne 20, 3) := by decide +kernel
theorem dX5_hasPart_33 : decode cX5_hasPart 33 = .ok (.iload_n 0, 1) := by decide +kernel
theorem dX5_hasPart_34 : decode cX5_hasPart 34 = .ok (.iload_n 3, 1) := by decide +kernel
theorem dX5_hasPart_35 : decode cX5_hasPart 35 = .ok (.invokestatic 248, 3) := by decide +kernel
theorem dX5_hasPart_38 : decode cX5_hasPart 38 = .ok (.iload_n 2, 1) := by decide +kernel
theorem dX5_hasPart_39 : decode cX5_hasPart 39 = .ok (.if_icmp .ne 7, 3) := by decide +kernel
theorem dX5_hasPart_42 : decode cX5_hasPart 42 = .ok (.iconst 1, 1) := by decide +kernel
theorem dX5_hasPart_43 : decode cX5_hasPart 43 = .ok (.goto 24, 3) := by decide +kernel
theorem dX5_hasPart_46 : decode cX5_hasPart 46 = .ok (.iconst 0, 1) := by decide +kernel
theorem dX5_hasPart_47 : decode cX5_hasPart 47 = .ok (.goto 20, 3) := by decide +kernel
theorem dX5_hasPart_50 : decode cX5_hasPart 50 = .ok (.iload_n 0, 1) := by decide +kernel
theorem dX5_hasPart_51 : decode cX5_hasPart 51 = .ok (.iload_n 2, 1) := by decide +kernel
theorem dX5_hasPart_52 : decode cX5_hasPart 52 = .ok (.invokestatic 245, 3) := by decide +kernel
theorem dX5_hasPart_55 : decode cX5_hasPart 55 = .ok (.invokestatic 252, 3) := by decide +kernel
theorem dX5_hasPart_58 : decode cX5_hasPart 58 = .ok (.iload_n 2, 1) := by decide +kernel
theorem dX5_hasPart_59 : decode cX5_hasPart 59 = .ok (.if_icmp .ne 7, 3) := by decide +kernel
theorem dX5_hasPart_62 : decode cX5_hasPart 62 = .ok (.iconst 1, 1) := by decide +kernel
theorem dX5_hasPart_63 : decode cX5_hasPart 63 = .ok (.goto 4, 3) := by decide +kernel
theorem dX5_hasPart_66 : decode cX5_hasPart 66 = .ok (.iconst 0, 1) := by decide +kernel
theorem dX5_hasPart_67 : decode cX5_hasPart 67 = .ok (.ireturn, 1) := by decide +kernel
theorem dX5_withPartChanged_0 : decode cX5_withPartChanged 0 = .ok (.aload_n 1, 1) := by decide +kernel
theorem dX5_withPartChanged_1 : decode cX5_withPartChanged 1 = .ok (.getfield 84, 3) := by decide +kernel
theorem dX5_withPartChanged_4 : decode cX5_withPartChanged 4 = .ok (.iconst 0, 1) := by decide +kernel
theorem dX5_withPartChanged_5 : decode cX5_withPartChanged 5 = .ok (.invokevirtual 235, 3) := by decide +kernel
theorem dX5_withPartChanged_8 : decode cX5_withPartChanged 8 = .ok (.invokestatic 245, 3) := by decide +kernel
theorem dX5_withPartChanged_11 : decode cX5_withPartChanged 11 = .ok (.istore_n 2, 1) := by decide +kernel
theorem dX5_withPartChanged_12 : decode cX5_withPartChanged 12 = .ok (.iload_n 0, 1) := by decide +kernel
theorem dX5_withPartChanged_13 : decode cX5_withPartChanged 13 = .ok (.invokestatic 245, 3) := by decide +kernel
theorem dX5_withPartChanged_16 : decode cX5_withPartChanged 16 = .ok (.iload_n 2, 1) := by decide +kernel
theorem dX5_withPartChanged_17 : decode cX5_withPartChanged 17 = .ok (.isub, 1) := by decide +kernel
theorem dX5_withPartChanged_18 : decode cX5_withPartChanged 18 = .ok (.istore_n 3, 1) := by decide +kernel
theorem dX5_withPartChanged_19 : decode cX5_withPartChanged 19 = .ok (.aload_n 1, 1) := by decide +kernel
theorem dX5_withPartChanged_20 : decode cX5_withPartChanged 20 = .ok (.getfield 111, 3) := by decide +kernel
theorem dX5_withPartChanged_23 : decode cX5_withPartChanged 23 = .ok (.getfield 110, 3) := by decide +kernel
theorem dX5_withPartChanged_26 : decode cX5_withPartChanged 26 = .ok (.ifCond .le 14, 3) := by decide +kernel
theorem dX5_withPartChanged_29 : decode cX5_withPartChanged 29 = .ok (.aload_n 1, 1) := by decide +kernel
theorem dX5_withPartChanged_30 : decode cX5_withPartChanged 30 = .ok (.getfield 111, 3) := by decide +kernel
theorem dX5_withPartChanged_33 : decode cX5_withPartChanged 33 = .ok (.iconst 0, 1) := by decide +kernel
theorem dX5_withPartChanged_34 : decode cX5_withPartChanged 34 = .ok (.invokevirtual 235, 3) := by decide +kernel
theorem dX5_withPartChanged_37 : decode cX5_withPartChanged 37 = .ok (.goto 4, 3) := by decide +kernel
theorem dX5_withPartChanged_40 : decode cX5_withPartChanged 40 = .ok (.iconst 0, 1) := by decide +kernel
theorem dX5_withPartChanged_41 : decode cX5_withPartChanged 41 = .ok (.istore 4, 2) := by decide +kernel
theorem dX5_withPartChanged_43 : decode cX5_withPartChanged 43 = .ok (.iload_n 3, 1) := by decide +kernel
theorem dX5_withPartChanged_44 : decode cX5_withPartChanged 44 = .ok (.iload 4, 2) := by decide +kernel
theorem dX5_withPartChanged_46 : decode cX5_withPartChanged 46 = .ok (.invokestatic 245, 3) := by decide +kernel
theorem dX5_withPartChanged_49 : decode cX5_withPartChanged 49 = .ok (.iadd, 1) := by decide +kernel
theorem dX5_withPartChanged_50 : decode cX5_withPartChanged 50 = .ok (.bipush 6, 2) := by decide +kernel
theorem dX5_withPartChanged_52 : decode cX5_withPartChanged 52 = .ok (.if_icmp .le 6, 3) := by decide +kernel
theorem dX5_withPartChanged_55 : decode cX5_withPartChanged 55 = .ok (.bipush (-5), 2) := by decide +kernel
theorem dX5_withPartChanged_57 : decode cX5_withPartChanged 57 = .ok (.ireturn, 1) := by decide +kernel
theorem dX5_withPartChanged_58 : decode cX5_withPartChanged 58 = .ok (.aload_n 1, 1) := by decide +kernel
theorem dX5_withPartChanged_59 : decode cX5_withPartChanged 59 = .ok (.getfield 103, 3) := by decide +kernel
theorem dX5_withPartChanged_62 : decode cX5_withPartChanged 62 = .ok (.iconst 1, 1) := by decide +kernel
theorem dX5_withPartChanged_63 : decode cX5_withPartChanged 63 = .ok (.if_icmp .ne 17, 3) := by decide +kernel
theorem dX5_withPartChanged_66 : decode cX5_withPartChanged 66 = .ok (.iload 4, 2) := by decide +kernel
theorem dX5_withPartChanged_68 : decode cX5_withPartChanged 68 = .ok (.iload_n 3, 1) := by decide +kernel
theorem dX5_withPartChanged_69 : decode cX5_withPartChanged 69 = .ok (.invokestatic 255, 3) := by decide +kernel
theorem dX5_withPartChanged_72 : decode cX5_withPartChanged 72 = .ok (.imul, 1) := by decide +kernel
theorem dX5_withPartChanged_73 : decode cX5_withPartChanged 73 = .ok (.iload_n 0, 1) := by decide +kernel
theorem dX5_withPartChanged_74 : decode cX5_withPartChanged 74 = .ok (.iload_n 3, 1) := by decide +kernel
theorem dX5_withPartChanged_75 : decode cX5_withPartChanged 75 = .ok (.invokestatic 252, 3) := by decide +kernel
theorem dX5_withPartChanged_78 : decode cX5_withPartChanged 78 = .ok (.iadd, 1) := by decide +kernel
theorem dX5_withPartChanged_79 : decode cX5_withPartChanged 79 = .ok (.ireturn, 1) := by decide +kernel
theorem dX5_withPartChanged_80 : decode cX5_withPartChanged 80 = .ok (.iload_n 0, 1) := by decide +kernel
theorem dX5_withPartChanged_81 : decode cX5_withPartChanged 81 = .ok (.iload_n 2, 1) := by decide +kernel
theorem dX5_withPartChanged_82 : decode cX5_withPartChanged 82 = .ok (.invokestatic 248, 3) := by decide +kernel
theorem dX5_withPartChanged_85 : decode cX5_withPartChanged 85 = .ok (.iload 4, 2) := by decide +kernel
theorem dX5_withPartChanged_87 : decode cX5_withPartChanged 87 = .ok (.invokestatic 245, 3) := by decide +kernel
theorem dX5_withPartChanged_90 : decode cX5_withPartChanged 90 = .ok (.invokestatic 255, 3) := by decide +kernel
theorem dX5_withPartChanged_93 : decode cX5_withPartChanged 93 = .ok (.imul, 1) := by decide +kernel
theorem dX5_withPartChanged_94 : decode cX5_withPartChanged 94 = .ok (.iload 4, 2) := by decide +kernel
theorem dX5_withPartChanged_96 : decode cX5_withPartChanged 96 = .ok (.iadd, 1) := by decide +kernel
theorem dX5_withPartChanged_97 : decode cX5_withPartChanged 97 = .ok (.ireturn, 1) := by decide +kernel
theorem dX5_isName_0 : decode cX5_isName 0 = .ok (.iload_n 0, 1) := by decide +kernel
theorem dX5_isName_1 : decode cX5_isName 1 = .ok (.ifCond .lt 13, 3) := by decide +kernel
theorem dX5_isName_4 : decode cX5_isName 4 = .ok (.iload_n 0, 1) := by decide +kernel
theorem dX5_isName_5 : decode cX5_isName 5 = .ok (.bipush 99, 2) := by decide +kernel
theorem dX5_isName_7 : decode cX5_isName 7 = .ok (.if_icmp .gt 7, 3) := by decide +kernel
theorem dX5_isName_10 : decode cX5_isName 10 = .ok (.iconst 1, 1) := by decide +kernel
theorem dX5_isName_11 : decode cX5_isName 11 = .ok (.goto 4, 3) := by decide +kernel
theorem dX5_isName_14 : decode cX5_isName 14 = .ok (.iconst 0, 1) := by decide +kernel
theorem dX5_isName_15 : decode cX5_isName 15 = .ok (.ireturn, 1) := by decide +kernel
theorem dX5_isPlain_0 : decode cX5_isPlain 0 = .ok (.iload_n 0, 1) := by decide +kernel
theorem dX5_isPlain_1 : decode cX5_isPlain 1 = .ok (.ifCond .eq 15, 3) := by decide +kernel
theorem dX5_isPlain_4 : decode cX5_isPlain 4 = .ok (.iload_n 0, 1) := by decide +kernel
theorem dX5_isPlain_5 : decode cX5_isPlain 5 = .ok (.iconst (-1), 1) := by decide +kernel
theorem dX5_isPlain_6 : decode cX5_isPlain 6 = .ok (.if_icmp .eq 10, 3) := by decide +kernel
theorem dX5_isPlain_9 : decode cX5_isPlain 9 = .ok (.iload_n 0, 1) := by decide +kernel
theorem dX5_isPlain_10 : decode cX5_isPlain 10 = .ok (.invokestatic 76, 3) := by decide +kernel
theorem dX5_isPlain_13 : decode cX5_isPlain 13 = .ok (.ifCond .eq 7, 3) := by decide +kernel
theorem dX5_isPlain_16 : decode cX5_isPlain 16 = .ok (.iconst 1, 1) := by decide +kernel
theorem dX5_isPlain_17 : decode cX5_isPlain 17 = .ok (.goto 4, 3) := by decide +kernel
theorem dX5_isPlain_20 : decode cX5_isPlain 20 = .ok (.iconst 0, 1) := by decide +kernel
theorem dX5_isPlain_21 : decode cX5_isPlain 21 = .ok (.ireturn, 1) := by decide +kernel
theorem dX5_isWord_0 : decode cX5_isWord 0 = .ok (.iload_n 0, 1) := by decide +kernel
theorem dX5_isWord_1 : decode cX5_isWord 1 = .ok (.istore_n 1, 1) := by decide +kernel
theorem dX5_isWord_2 : decode cX5_isWord 2 = .ok (.iconst 0, 1) := by decide +kernel
theorem dX5_isWord_3 : decode cX5_isWord 3 = .ok (.istore_n 2, 1) := by decide +kernel
theorem dX5_isWord_4 : decode cX5_isWord 4 = .ok (.iload_n 2, 1) := by decide +kernel
theorem dX5_isWord_5 : decode cX5_isWord 5 = .ok (.bipush 6, 2) := by decide +kernel
theorem dX5_isWord_7 : decode cX5_isWord 7 = .ok (.if_icmp .ge 27, 3) := by decide +kernel
theorem dX5_isWord_10 : decode cX5_isWord 10 = .ok (.iload_n 1, 1) := by decide +kernel
theorem dX5_isWord_11 : decode cX5_isWord 11 = .ok (.ifCond .le 23, 3) := by decide +kernel
theorem dX5_isWord_14 : decode cX5_isWord 14 = .ok (.iload_n 1, 1) := by decide +kernel
theorem dX5_isWord_15 : decode cX5_isWord 15 = .ok (.bipush 27, 2) := by decide +kernel
theorem dX5_isWord_17 : decode cX5_isWord 17 = .ok (.irem, 1) := by decide +kernel
theorem dX5_isWord_18 : decode cX5_isWord 18 = .ok (.ifCond .ne 5, 3) := by decide +kernel
theorem dX5_isWord_21 : decode cX5_isWord 21 = .ok (.iconst 0, 1) := by decide +kernel
theorem dX5_isWord_22 : decode cX5_isWord 22 = .ok (.ireturn, 1) := by decide +kernel
theorem dX5_isWord_23 : decode cX5_isWord 23 = .ok (.iload_n 1, 1) := by decide +kernel
theorem dX5_isWord_24 : decode cX5_isWord 24 = .ok (.bipush 27, 2) := by decide +kernel
theorem dX5_isWord_26 : decode cX5_isWord 26 = .ok (.idiv, 1) := by decide +kernel
theorem dX5_isWord_27 : decode cX5_isWord 27 = .ok (.istore_n 1, 1) := by decide +kernel
theorem dX5_isWord_28 : decode cX5_isWord 28 = .ok (.iinc 2 1, 3) := by decide +kernel
theorem dX5_isWord_31 : decode cX5_isWord 31 = .ok (.goto (-27), 3) := by decide +kernel
theorem dX5_isWord_34 : decode cX5_isWord 34 = .ok (.iload_n 0, 1) := by decide +kernel
theorem dX5_isWord_35 : decode cX5_isWord 35 = .ok (.ifCond .le 11, 3) := by decide +kernel
theorem dX5_isWord_38 : decode cX5_isWord 38 = .ok (.iload_n 1, 1) := by decide +kernel
theorem dX5_isWord_39 : decode cX5_isWord 39 = .ok (.ifCond .ne 7, 3) := by decide +kernel
theorem dX5_isWord_42 : decode cX5_isWord 42 = .ok (.iconst 1, 1) := by decide +kernel
theorem dX5_isWord_43 : decode cX5_isWord 43 = .ok (.goto 4, 3) := by decide +kernel
theorem dX5_isWord_46 : decode cX5_isWord 46 = .ok (.iconst 0, 1) := by decide +kernel
theorem dX5_isWord_47 : decode cX5_isWord 47 = .ok (.ireturn, 1) := by decide +kernel
theorem dX5_letters_0 : decode cX5_letters 0 = .ok (.iconst 0, 1) := by decide +kernel
theorem dX5_letters_1 : decode cX5_letters 1 = .ok (.istore_n 1, 1) := by decide +kernel
theorem dX5_letters_2 : decode cX5_letters 2 = .ok (.iload_n 0, 1) := by decide +kernel
theorem dX5_letters_3 : decode cX5_letters 3 = .ok (.istore_n 2, 1) := by decide +kernel
theorem dX5_letters_4 : decode cX5_letters 4 = .ok (.iload_n 2, 1) := by decide +kernel
theorem dX5_letters_5 : decode cX5_letters 5 = .ok (.ifCond .le 20, 3) := by decide +kernel
theorem dX5_letters_8 : decode cX5_letters 8 = .ok (.iload_n 1, 1) := by decide +kernel
theorem dX5_letters_9 : decode cX5_letters 9 = .ok (.bipush 6, 2) := by decide +kernel
theorem dX5_letters_11 : decode cX5_letters 11 = .ok (.if_icmp .ge 14, 3) := by decide +kernel
theorem dX5_letters_14 : decode cX5_letters 14 = .ok (.iinc 1 1, 3) := by decide +kernel
theorem dX5_letters_17 : decode cX5_letters 17 = .ok (.iload_n 2, 1) := by decide +kernel
theorem dX5_letters_18 : decode cX5_letters 18 = .ok (.bipush 27, 2) := by decide +kernel
theorem dX5_letters_20 : decode cX5_letters 20 = .ok (.idiv, 1) := by decide +kernel
theorem dX5_letters_21 : decode cX5_letters 21 = .ok (.istore_n 2, 1) := by decide +kernel
theorem dX5_letters_22 : decode cX5_letters 22 = .ok (.goto (-18), 3) := by decide +kernel
theorem dX5_letters_25 : decode cX5_letters 25 = .ok (.iload_n 1, 1) := by decide +kernel
theorem dX5_letters_26 : decode cX5_letters 26 = .ok (.ireturn, 1) := by decide +kernel
theorem dX5_power_0 : decode cX5_power 0 = .ok (.iconst 1, 1) := by decide +kernel
theorem dX5_power_1 : decode cX5_power 1 = .ok (.istore_n 1, 1) := by decide +kernel
theorem dX5_power_2 : decode cX5_power 2 = .ok (.iconst 0, 1) := by decide +kernel
theorem dX5_power_3 : decode cX5_power 3 = .ok (.istore_n 2, 1) := by decide +kernel
theorem dX5_power_4 : decode cX5_power 4 = .ok (.iload_n 2, 1) := by decide +kernel
theorem dX5_power_5 : decode cX5_power 5 = .ok (.iload_n 0, 1) := by decide +kernel
theorem dX5_power_6 : decode cX5_power 6 = .ok (.if_icmp .ge 20, 3) := by decide +kernel
theorem dX5_power_9 : decode cX5_power 9 = .ok (.iload_n 2, 1) := by decide +kernel
theorem dX5_power_10 : decode cX5_power 10 = .ok (.bipush 6, 2) := by decide +kernel
theorem dX5_power_12 : decode cX5_power 12 = .ok (.if_icmp .ge 14, 3) := by decide +kernel
theorem dX5_power_15 : decode cX5_power 15 = .ok (.iload_n 1, 1) := by decide +kernel
theorem dX5_power_16 : decode cX5_power 16 = .ok (.bipush 27, 2) := by decide +kernel
theorem dX5_power_18 : decode cX5_power 18 = .ok (.imul, 1) := by decide +kernel
theorem dX5_power_19 : decode cX5_power 19 = .ok (.istore_n 1, 1) := by decide +kernel
theorem dX5_power_20 : decode cX5_power 20 = .ok (.iinc 2 1, 3) := by decide +kernel
theorem dX5_power_23 : decode cX5_power 23 = .ok (.goto (-19), 3) := by decide +kernel
theorem dX5_power_26 : decode cX5_power 26 = .ok (.iload_n 1, 1) := by decide +kernel
theorem dX5_power_27 : decode cX5_power 27 = .ok (.ireturn, 1) := by decide +kernel
theorem dX5_withoutLast_0 : decode cX5_withoutLast 0 = .ok (.iload_n 0, 1) := by decide +kernel
theorem dX5_withoutLast_1 : decode cX5_withoutLast 1 = .ok (.istore_n 2, 1) := by decide +kernel
theorem dX5_withoutLast_2 : decode cX5_withoutLast 2 = .ok (.iconst 0, 1) := by decide +kernel
theorem dX5_withoutLast_3 : decode cX5_withoutLast 3 = .ok (.istore_n 3, 1) := by decide +kernel
theorem dX5_withoutLast_4 : decode cX5_withoutLast 4 = .ok (.iload_n 3, 1) := by decide +kernel
theorem dX5_withoutLast_5 : decode cX5_withoutLast 5 = .ok (.iload_n 1, 1) := by decide +kernel
theorem dX5_withoutLast_6 : decode cX5_withoutLast 6 = .ok (.if_icmp .ge 20, 3) := by decide +kernel
theorem dX5_withoutLast_9 : decode cX5_withoutLast 9 = .ok (.iload_n 3, 1) := by decide +kernel
theorem dX5_withoutLast_10 : decode cX5_withoutLast 10 = .ok (.bipush 6, 2) := by decide +kernel
theorem dX5_withoutLast_12 : decode cX5_withoutLast 12 = .ok (.if_icmp .ge 14, 3) := by decide +kernel
theorem dX5_withoutLast_15 : decode cX5_withoutLast 15 = .ok (.iload_n 2, 1) := by decide +kernel
theorem dX5_withoutLast_16 : decode cX5_withoutLast 16 = .ok (.bipush 27, 2) := by decide +kernel
theorem dX5_withoutLast_18 : decode cX5_withoutLast 18 = .ok (.idiv, 1) := by decide +kernel
theorem dX5_withoutLast_19 : decode cX5_withoutLast 19 = .ok (.istore_n 2, 1) := by decide +kernel
theorem dX5_withoutLast_20 : decode cX5_withoutLast 20 = .ok (.iinc 3 1, 3) := by decide +kernel
theorem dX5_withoutLast_23 : decode cX5_withoutLast 23 = .ok (.goto (-19), 3) := by decide +kernel
theorem dX5_withoutLast_26 : decode cX5_withoutLast 26 = .ok (.iload_n 2, 1) := by decide +kernel
theorem dX5_withoutLast_27 : decode cX5_withoutLast 27 = .ok (.ireturn, 1) := by decide +kernel
theorem dX5_lastOf_0 : decode cX5_lastOf 0 = .ok (.iconst 0, 1) := by decide +kernel
theorem dX5_lastOf_1 : decode cX5_lastOf 1 = .ok (.istore_n 2, 1) := by decide +kernel
theorem dX5_lastOf_2 : decode cX5_lastOf 2 = .ok (.iconst 1, 1) := by decide +kernel
theorem dX5_lastOf_3 : decode cX5_lastOf 3 = .ok (.istore_n 3, 1) := by decide +kernel
theorem dX5_lastOf_4 : decode cX5_lastOf 4 = .ok (.iload_n 0, 1) := by decide +kernel
theorem dX5_lastOf_5 : decode cX5_lastOf 5 = .ok (.istore 4, 2) := by decide +kernel
theorem dX5_lastOf_7 : decode cX5_lastOf 7 = .ok (.iconst 0, 1) := by decide +kernel
theorem dX5_lastOf_8 : decode cX5_lastOf 8 = .ok (.istore 5, 2) := by decide +kernel
theorem dX5_lastOf_10 : decode cX5_lastOf 10 = .ok (.iload 5, 2) := by decide +kernel
theorem dX5_lastOf_12 : decode cX5_lastOf 12 = .ok (.iload_n 1, 1) := by decide +kernel
theorem dX5_lastOf_13 : decode cX5_lastOf 13 = .ok (.if_icmp .ge 38, 3) := by decide +kernel
theorem dX5_lastOf_16 : decode cX5_lastOf 16 = .ok (.iload 5, 2) := by decide +kernel
theorem dX5_lastOf_18 : decode cX5_lastOf 18 = .ok (.bipush 6, 2) := by decide +kernel
theorem dX5_lastOf_20 : decode cX5_lastOf 20 = .ok (.if_icmp .ge 31, 3) := by decide +kernel
theorem dX5_lastOf_23 : decode cX5_lastOf 23 = .ok (.iload_n 2, 1) := by decide +kernel
theorem dX5_lastOf_24 : decode cX5_lastOf 24 = .ok (.iload 4, 2) := by decide +kernel
theorem dX5_lastOf_26 : decode cX5_lastOf 26 = .ok (.bipush 27, 2) := by decide +kernel
theorem dX5_lastOf_28 : decode cX5_lastOf 28 = .ok (.irem, 1) := by decide +kernel
theorem dX5_lastOf_29 : decode cX5_lastOf 29 = .ok (.iload_n 3, 1) := by decide +kernel
theorem dX5_lastOf_30 : decode cX5_lastOf 30 = .ok (.imul, 1) := by decide +kernel
theorem dX5_lastOf_31 : decode cX5_lastOf 31 = .ok (.iadd, 1) := by decide +kernel
theorem dX5_lastOf_32 : decode cX5_lastOf 32 = .ok (.istore_n 2, 1) := by decide +kernel
theorem dX5_lastOf_33 : decode cX5_lastOf 33 = .ok (.iload_n 3, 1) := by decide +kernel
theorem dX5_lastOf_34 : decode cX5_lastOf 34 = .ok (.bipush 27, 2) := by decide +kernel
theorem dX5_lastOf_36 : decode cX5_lastOf 36 = .ok (.imul, 1) := by decide +kernel
theorem dX5_lastOf_37 : decode cX5_lastOf 37 = .ok (.istore_n 3, 1) := by decide +kernel
theorem dX5_lastOf_38 : decode cX5_lastOf 38 = .ok (.iload 4, 2) := by decide +kernel
theorem dX5_lastOf_40 : decode cX5_lastOf 40 = .ok (.bipush 27, 2) := by decide +kernel
theorem dX5_lastOf_42 : decode cX5_lastOf 42 = .ok (.idiv, 1) := by decide +kernel
theorem dX5_lastOf_43 : decode cX5_lastOf 43 = .ok (.istore 4, 2) := by decide +kernel
theorem dX5_lastOf_45 : decode cX5_lastOf 45 = .ok (.iinc 5 1, 3) := by decide +kernel
theorem dX5_lastOf_48 : decode cX5_lastOf 48 = .ok (.goto (-38), 3) := by decide +kernel
theorem dX5_lastOf_51 : decode cX5_lastOf 51 = .ok (.iload_n 2, 1) := by decide +kernel
theorem dX5_lastOf_52 : decode cX5_lastOf 52 = .ok (.ireturn, 1) := by decide +kernel
theorem dX6_init_0 : decode cX6_init 0 = .ok (.aload_n 0, 1) := by decide +kernel
theorem dX6_init_1 : decode cX6_init 1 = .ok (.invokespecial 1, 3) := by decide +kernel
theorem dX6_init_4 : decode cX6_init 4 = .ok (.aload_n 0, 1) := by decide +kernel
theorem dX6_init_5 : decode cX6_init 5 = .ok (.bipush 13, 2) := by decide +kernel
theorem dX6_init_7 : decode cX6_init 7 = .ok (.newarray .int, 2) := by decide +kernel
theorem dX6_init_9 : decode cX6_init 9 = .ok (.putfield 7, 3) := by decide +kernel
theorem dX6_init_12 : decode cX6_init 12 = .ok (.aload_n 0, 1) := by decide +kernel
theorem dX6_init_13 : decode cX6_init 13 = .ok (.bipush 13, 2) := by decide +kernel
theorem dX6_init_15 : decode cX6_init 15 = .ok (.newarray .int, 2) := by decide +kernel
theorem dX6_init_17 : decode cX6_init 17 = .ok (.putfield 13, 3) := by decide +kernel
theorem dX6_init_20 : decode cX6_init 20 = .ok (.aload_n 0, 1) := by decide +kernel
theorem dX6_init_21 : decode cX6_init 21 = .ok (.sipush 2600, 3) := by decide +kernel
theorem dX6_init_24 : decode cX6_init 24 = .ok (.newarray .int, 2) := by decide +kernel
theorem dX6_init_26 : decode cX6_init 26 = .ok (.putfield 16, 3) := by decide +kernel
theorem dX6_init_29 : decode cX6_init 29 = .ok (.aload_n 0, 1) := by decide +kernel
theorem dX6_init_30 : decode cX6_init 30 = .ok (.bipush 61, 2) := by decide +kernel
theorem dX6_init_32 : decode cX6_init 32 = .ok (.newarray .int, 2) := by decide +kernel
theorem dX6_init_34 : decode cX6_init 34 = .ok (.putfield 19, 3) := by decide +kernel
theorem dX6_init_37 : decode cX6_init 37 = .ok (.aload_n 0, 1) := by decide +kernel
theorem dX6_init_38 : decode cX6_init 38 = .ok (.bipush 61, 2) := by decide +kernel
theorem dX6_init_40 : decode cX6_init 40 = .ok (.newarray .int, 2) := by decide +kernel
theorem dX6_init_42 : decode cX6_init 42 = .ok (.putfield 22, 3) := by decide +kernel
theorem dX6_init_45 : decode cX6_init 45 = .ok (.aload_n 0, 1) := by decide +kernel
theorem dX6_init_46 : decode cX6_init 46 = .ok (.sipush 488, 3) := by decide +kernel
theorem dX6_init_49 : decode cX6_init 49 = .ok (.newarray .int, 2) := by decide +kernel
theorem dX6_init_51 : decode cX6_init 51 = .ok (.putfield 25, 3) := by decide +kernel
theorem dX6_init_54 : decode cX6_init 54 = .ok (.aload_n 0, 1) := by decide +kernel
theorem dX6_init_55 : decode cX6_init 55 = .ok (.bipush 61, 2) := by decide +kernel
theorem dX6_init_57 : decode cX6_init 57 = .ok (.newarray .boolean, 2) := by decide +kernel
theorem dX6_init_59 : decode cX6_init 59 = .ok (.putfield 28, 3) := by decide +kernel
theorem dX6_init_62 : decode cX6_init 62 = .ok (.aload_n 0, 1) := by decide +kernel
theorem dX6_init_63 : decode cX6_init 63 = .ok (.bipush 61, 2) := by decide +kernel
theorem dX6_init_65 : decode cX6_init 65 = .ok (.newarray .boolean, 2) := by decide +kernel
theorem dX6_init_67 : decode cX6_init 67 = .ok (.putfield 32, 3) := by decide +kernel
theorem dX6_init_70 : decode cX6_init 70 = .ok (.aload_n 0, 1) := by decide +kernel
theorem dX6_init_71 : decode cX6_init 71 = .ok (.bipush 101, 2) := by decide +kernel
theorem dX6_init_73 : decode cX6_init 73 = .ok (.newarray .int, 2) := by decide +kernel
theorem dX6_init_75 : decode cX6_init 75 = .ok (.putfield 35, 3) := by decide +kernel
theorem dX6_init_78 : decode cX6_init 78 = .ok (.aload_n 0, 1) := by decide +kernel
theorem dX6_init_79 : decode cX6_init 79 = .ok (.bipush 101, 2) := by decide +kernel
theorem dX6_init_81 : decode cX6_init 81 = .ok (.newarray .int, 2) := by decide +kernel
theorem dX6_init_83 : decode cX6_init 83 = .ok (.putfield 38, 3) := by decide +kernel
theorem dX6_init_86 : decode cX6_init 86 = .ok (.aload_n 0, 1) := by decide +kernel
theorem dX6_init_87 : decode cX6_init 87 = .ok (.bipush 101, 2) := by decide +kernel
theorem dX6_init_89 : decode cX6_init 89 = .ok (.newarray .int, 2) := by decide +kernel
theorem dX6_init_91 : decode cX6_init 91 = .ok (.putfield 41, 3) := by decide +kernel
theorem dX6_init_94 : decode cX6_init 94 = .ok (.aload_n 0, 1) := by decide +kernel
theorem dX6_init_95 : decode cX6_init 95 = .ok (.sipush 1010, 3) := by decide +kernel
theorem dX6_init_98 : decode cX6_init 98 = .ok (.newarray .int, 2) := by decide +kernel
theorem dX6_init_100 : decode cX6_init 100 = .ok (.putfield 44, 3) := by decide +kernel
theorem dX6_init_103 : decode cX6_init 103 = .ok (.aload_n 0, 1) := by decide +kernel
theorem dX6_init_104 : decode cX6_init 104 = .ok (.sipush 1010, 3) := by decide +kernel
theorem dX6_init_107 : decode cX6_init 107 = .ok (.newarray .int, 2) := by decide +kernel
theorem dX6_init_109 : decode cX6_init 109 = .ok (.putfield 47, 3) := by decide +kernel
theorem dX6_init_112 : decode cX6_init 112 = .ok (.aload_n 0, 1) := by decide +kernel
theorem dX6_init_113 : decode cX6_init 113 = .ok (.sipush 4530, 3) := by decide +kernel
theorem dX6_init_116 : decode cX6_init 116 = .ok (.newarray .int, 2) := by decide +kernel
theorem dX6_init_118 : decode cX6_init 118 = .ok (.putfield 50, 3) := by decide +kernel
theorem dX6_init_121 : decode cX6_init 121 = .ok (.aload_n 0, 1) := by decide +kernel
theorem dX6_init_122 : decode cX6_init 122 = .ok (.sipush 4530, 3) := by decide +kernel
theorem dX6_init_125 : decode cX6_init 125 = .ok (.newarray .int, 2) := by decide +kernel
theorem dX6_init_127 : decode cX6_init 127 = .ok (.putfield 53, 3) := by decide +kernel
theorem dX6_init_130 : decode cX6_init 130 = .ok (.aload_n 0, 1) := by decide +kernel
theorem dX6_init_131 : decode cX6_init 131 = .ok (.sipush 4530, 3) := by decide +kernel
theorem dX6_init_134 : decode cX6_init 134 = .ok (.newarray .int, 2) := by decide +kernel
theorem dX6_init_136 : decode cX6_init 136 = .ok (.putfield 56, 3) := by decide +kernel
theorem dX6_init_139 : decode cX6_init 139 = .ok (.aload_n 0, 1) := by decide +kernel
theorem dX6_init_140 : decode cX6_init 140 = .ok (.sipush 4530, 3) := by decide +kernel
theorem dX6_init_143 : decode cX6_init 143 = .ok (.newarray .int, 2) := by decide +kernel
theorem dX6_init_145 : decode cX6_init 145 = .ok (.putfield 59, 3) := by decide +kernel
theorem dX6_init_148 : decode cX6_init 148 = .ok (.aload_n 0, 1) := by decide +kernel
theorem dX6_init_149 : decode cX6_init 149 = .ok (.sipush 4530, 3) := by decide +kernel
theorem dX6_init_152 : decode cX6_init 152 = .ok (.newarray .int, 2) := by decide +kernel
theorem dX6_init_154 : decode cX6_init 154 = .ok (.putfield 62, 3) := by decide +kernel
theorem dX6_init_157 : decode cX6_init 157 = .ok (.aload_n 0, 1) := by decide +kernel
theorem dX6_init_158 : decode cX6_init 158 = .ok (.sipush 4530, 3) := by decide +kernel
theorem dX6_init_161 : decode cX6_init 161 = .ok (.newarray .int, 2) := by decide +kernel
theorem dX6_init_163 : decode cX6_init 163 = .ok (.putfield 65, 3) := by decide +kernel
theorem dX6_init_166 : decode cX6_init 166 = .ok (.aload_n 0, 1) := by decide +kernel
theorem dX6_init_167 : decode cX6_init 167 = .ok (.bipush 15, 2) := by decide +kernel
theorem dX6_init_169 : decode cX6_init 169 = .ok (.newarray .int, 2) := by decide +kernel
theorem dX6_init_171 : decode cX6_init 171 = .ok (.putfield 68, 3) := by decide +kernel
theorem dX6_init_174 : decode cX6_init 174 = .ok (.aload_n 0, 1) := by decide +kernel
theorem dX6_init_175 : decode cX6_init 175 = .ok (.bipush 15, 2) := by decide +kernel
theorem dX6_init_177 : decode cX6_init 177 = .ok (.newarray .int, 2) := by decide +kernel
theorem dX6_init_179 : decode cX6_init 179 = .ok (.putfield 71, 3) := by decide +kernel
theorem dX6_init_182 : decode cX6_init 182 = .ok (.aload_n 0, 1) := by decide +kernel
theorem dX6_init_183 : decode cX6_init 183 = .ok (.bipush 15, 2) := by decide +kernel
theorem dX6_init_185 : decode cX6_init 185 = .ok (.newarray .int, 2) := by decide +kernel
theorem dX6_init_187 : decode cX6_init 187 = .ok (.putfield 74, 3) := by decide +kernel
theorem dX6_init_190 : decode cX6_init 190 = .ok (.aload_n 0, 1) := by decide +kernel
theorem dX6_init_191 : decode cX6_init 191 = .ok (.bipush 15, 2) := by decide +kernel
theorem dX6_init_193 : decode cX6_init 193 = .ok (.newarray .int, 2) := by decide +kernel
theorem dX6_init_195 : decode cX6_init 195 = .ok (.putfield 77, 3) := by decide +kernel
theorem dX6_init_198 : decode cX6_init 198 = .ok (.aload_n 0, 1) := by decide +kernel
theorem dX6_init_199 : decode cX6_init 199 = .ok (.bipush 14, 2) := by decide +kernel
theorem dX6_init_201 : decode cX6_init 201 = .ok (.newarray .int, 2) := by decide +kernel
theorem dX6_init_203 : decode cX6_init 203 = .ok (.putfield 80, 3) := by decide +kernel
theorem dX6_init_206 : decode cX6_init 206 = .ok (.return_, 1) := by decide +kernel
theorem dX6_thrown_0 : decode cX6_thrown 0 = .ok (.aload_n 0, 1) := by decide +kernel
theorem dX6_thrown_1 : decode cX6_thrown 1 = .ok (.getfield 83, 3) := by decide +kernel
theorem dX6_thrown_4 : decode cX6_thrown 4 = .ok (.ireturn, 1) := by decide +kernel
theorem dX6_isWord_0 : decode cX6_isWord 0 = .ok (.iload_n 0, 1) := by decide +kernel
theorem dX6_isWord_1 : decode cX6_isWord 1 = .ok (.iconst 1, 1) := by decide +kernel
theorem dX6_isWord_2 : decode cX6_isWord 2 = .ok (.if_icmp .lt 9, 3) := by decide +kernel
theorem dX6_isWord_5 : decode cX6_isWord 5 = .ok (.iload_n 0, 1) := by decide +kernel
theorem dX6_isWord_6 : decode cX6_isWord 6 = .ok (.ldc 87, 2) := by decide +kernel
theorem dX6_isWord_8 : decode cX6_isWord 8 = .ok (.if_icmp .lt 5, 3) := by decide +kernel
theorem dX6_isWord_11 : decode cX6_isWord 11 = .ok (.iconst 0, 1) := by decide +kernel
theorem dX6_isWord_12 : decode cX6_isWord 12 = .ok (.ireturn, 1) := by decide +kernel
theorem dX6_isWord_13 : decode cX6_isWord 13 = .ok (.iload_n 0, 1) := by decide +kernel
theorem dX6_isWord_14 : decode cX6_isWord 14 = .ok (.istore_n 1, 1) := by decide +kernel
theorem dX6_isWord_15 : decode cX6_isWord 15 = .ok (.iload_n 1, 1) := by decide +kernel
theorem dX6_isWord_16 : decode cX6_isWord 16 = .ok (.ifCond .le 18, 3) := by decide +kernel
theorem dX6_isWord_19 : decode cX6_isWord 19 = .ok (.iload_n 1, 1) := by decide +kernel
theorem dX6_isWord_20 : decode cX6_isWord 20 = .ok (.bipush 27, 2) := by decide +kernel
theorem dX6_isWord_22 : decode cX6_isWord 22 = .ok (.irem, 1) := by decide +kernel
theorem dX6_isWord_23 : decode cX6_isWord 23 = .ok (.ifCond .le 11, 3) := by decide +kernel
theorem dX6_isWord_26 : decode cX6_isWord 26 = .ok (.iload_n 1, 1) := by decide +kernel
theorem dX6_isWord_27 : decode cX6_isWord 27 = .ok (.bipush 27, 2) := by decide +kernel
theorem dX6_isWord_29 : decode cX6_isWord 29 = .ok (.idiv, 1) := by decide +kernel
theorem dX6_isWord_30 : decode cX6_isWord 30 = .ok (.istore_n 1, 1) := by decide +kernel
theorem dX6_isWord_31 : decode cX6_isWord 31 = .ok (.goto (-16), 3) := by decide +kernel
theorem dX6_isWord_34 : decode cX6_isWord 34 = .ok (.iload_n 1, 1) := by decide +kernel
theorem dX6_isWord_35 : decode cX6_isWord 35 = .ok (.ifCond .ne 7, 3) := by decide +kernel
theorem dX6_isWord_38 : decode cX6_isWord 38 = .ok (.iconst 1, 1) := by decide +kernel
theorem dX6_isWord_39 : decode cX6_isWord 39 = .ok (.goto 4, 3) := by decide +kernel
theorem dX6_isWord_42 : decode cX6_isWord 42 = .ok (.iconst 0, 1) := by decide +kernel
theorem dX6_isWord_43 : decode cX6_isWord 43 = .ok (.ireturn, 1) := by decide +kernel
theorem dX6_isText_0 : decode cX6_isText 0 = .ok (.iload_n 1, 1) := by decide +kernel
theorem dX6_isText_1 : decode cX6_isText 1 = .ok (.ifCond .lt 15, 3) := by decide +kernel
theorem dX6_isText_4 : decode cX6_isText 4 = .ok (.iload_n 1, 1) := by decide +kernel
theorem dX6_isText_5 : decode cX6_isText 5 = .ok (.aload_n 0, 1) := by decide +kernel
theorem dX6_isText_6 : decode cX6_isText 6 = .ok (.getfield 88, 3) := by decide +kernel
theorem dX6_isText_9 : decode cX6_isText 9 = .ok (.if_icmp .gt 7, 3) := by decide +kernel
theorem dX6_isText_12 : decode cX6_isText 12 = .ok (.iconst 1, 1) := by decide +kernel
theorem dX6_isText_13 : decode cX6_isText 13 = .ok (.goto 4, 3) := by decide +kernel
theorem dX6_isText_16 : decode cX6_isText 16 = .ok (.iconst 0, 1) := by decide +kernel
theorem dX6_isText_17 : decode cX6_isText 17 = .ok (.ireturn, 1) := by decide +kernel
theorem dX6_add_0 : decode cX6_add 0 = .ok (.aload_n 0, 1) := by decide +kernel
theorem dX6_add_1 : decode cX6_add 1 = .ok (.getfield 16, 3) := by decide +kernel
theorem dX6_add_4 : decode cX6_add 4 = .ok (.sipush 200, 3) := by decide +kernel
theorem dX6_add_7 : decode cX6_add 7 = .ok (.iload_n 1, 1) := by decide +kernel
theorem dX6_add_8 : decode cX6_add 8 = .ok (.imul, 1) := by decide +kernel
theorem dX6_add_9 : decode cX6_add 9 = .ok (.aload_n 0, 1) := by decide +kernel
theorem dX6_add_10 : decode cX6_add 10 = .ok (.getfield 13, 3) := by decide +kernel
theorem dX6_add_13 : decode cX6_add 13 = .ok (.iload_n 1, 1) := by decide +kernel
theorem dX6_add_14 : decode cX6_add 14 = .ok (.iaload, 1) := by decide +kernel
theorem dX6_add_15 : decode cX6_add 15 = .ok (.iadd, 1) := by decide +kernel
theorem dX6_add_16 : decode cX6_add 16 = .ok (.iload_n 2, 1) := by decide +kernel
theorem dX6_add_17 : decode cX6_add 17 = .ok (.iastore, 1) := by decide +kernel
theorem dX6_add_18 : decode cX6_add 18 = .ok (.aload_n 0, 1) := by decide +kernel
theorem dX6_add_19 : decode cX6_add 19 = .ok (.getfield 13, 3) := by decide +kernel
theorem dX6_add_22 : decode cX6_add 22 = .ok (.iload_n 1, 1) := by decide +kernel
theorem dX6_add_23 : decode cX6_add 23 = .ok (.dup2, 1) := by decide +kernel
theorem dX6_add_24 : decode cX6_add 24 = .ok (.iaload, 1) := by decide +kernel
theorem dX6_add_25 : decode cX6_add 25 = .ok (.iconst 1, 1) := by decide +kernel
theorem dX6_add_26 : decode cX6_add 26 = .ok (.iadd, 1) := by decide +kernel
theorem dX6_add_27 : decode cX6_add 27 = .ok (.iastore, 1) := by decide +kernel
theorem dX6_add_28 : decode cX6_add 28 = .ok (.aload_n 0, 1) := by decide +kernel
theorem dX6_add_29 : decode cX6_add 29 = .ok (.getfield 13, 3) := by decide +kernel
theorem dX6_add_32 : decode cX6_add 32 = .ok (.iload_n 1, 1) := by decide +kernel
theorem dX6_add_33 : decode cX6_add 33 = .ok (.iaload, 1) := by decide +kernel
theorem dX6_add_34 : decode cX6_add 34 = .ok (.ireturn, 1) := by decide +kernel
theorem dX6_library_0 : decode cX6_library 0 = .ok (.aload_n 0, 1) := by decide +kernel
theorem dX6_library_1 : decode cX6_library 1 = .ok (.iconst 0, 1) := by decide +kernel
theorem dX6_library_2 : decode cX6_library 2 = .ok (.putfield 83, 3) := by decide +kernel
theorem dX6_library_5 : decode cX6_library 5 = .ok (.iload_n 1, 1) := by decide +kernel
theorem dX6_library_6 : decode cX6_library 6 = .ok (.ifCond .lt 9, 3) := by decide +kernel
theorem dX6_library_9 : decode cX6_library 9 = .ok (.iload_n 1, 1) := by decide +kernel
theorem dX6_library_10 : decode cX6_library 10 = .ok (.bipush 99, 2) := by decide +kernel
theorem dX6_library_12 : decode cX6_library 12 = .ok (.if_icmp .le 6, 3) := by decide +kernel
theorem dX6_library_15 : decode cX6_library 15 = .ok (.bipush (-4), 2) := by decide +kernel
theorem dX6_library_17 : decode cX6_library 17 = .ok (.ireturn, 1) := by decide +kernel
theorem dX6_library_18 : decode cX6_library 18 = .ok (.aload_n 0, 1) := by decide +kernel
theorem dX6_library_19 : decode cX6_library 19 = .ok (.getfield 88, 3) := by decide +kernel
theorem dX6_library_22 : decode cX6_library 22 = .ok (.bipush 12, 2) := by decide +kernel
theorem dX6_library_24 : decode cX6_library 24 = .ok (.if_icmp .ne 5, 3) := by decide +kernel
theorem dX6_library_27 : decode cX6_library 27 = .ok (.iconst (-1), 1) := by decide +kernel
theorem dX6_library_28 : decode cX6_library 28 = .ok (.ireturn, 1) := by decide +kernel
theorem dX6_library_29 : decode cX6_library 29 = .ok (.aload_n 0, 1) := by decide +kernel
theorem dX6_library_30 : decode cX6_library 30 = .ok (.dup, 1) := by decide +kernel
theorem dX6_library_31 : decode cX6_library 31 = .ok (.getfield 88, 3) := by decide +kernel
theorem dX6_library_34 : decode cX6_library 34 = .ok (.iconst 1, 1) := by decide +kernel
theorem dX6_library_35 : decode cX6_library 35 = .ok (.iadd, 1) := by decide +kernel
theorem dX6_library_36 : decode cX6_library 36 = .ok (.putfield 88, 3) := by decide +kernel
theorem dX6_library_39 : decode cX6_library 39 = .ok (.aload_n 0, 1) := by decide +kernel
theorem dX6_library_40 : decode cX6_library 40 = .ok (.getfield 7, 3) := by decide +kernel
theorem dX6_library_43 : decode cX6_library 43 = .ok (.aload_n 0, 1) := by decide +kernel
theorem dX6_library_44 : decode cX6_library 44 = .ok (.getfield 88, 3) := by decide +kernel
theorem dX6_library_47 : decode cX6_library 47 = .ok (.iload_n 1, 1) := by decide +kernel
theorem dX6_library_48 : decode cX6_library 48 = .ok (.iastore, 1) := by decide +kernel
theorem dX6_library_49 : decode cX6_library 49 = .ok (.aload_n 0, 1) := by decide +kernel
theorem dX6_library_50 : decode cX6_library 50 = .ok (.getfield 88, 3) := by decide +kernel
theorem dX6_library_53 : decode cX6_library 53 = .ok (.ireturn, 1) := by decide +kernel
theorem dX6_word_0 : decode cX6_word 0 = .ok (.aload_n 0, 1) := by decide +kernel
theorem dX6_word_1 : decode cX6_word 1 = .ok (.iconst 0, 1) := by decide +kernel
theorem dX6_word_2 : decode cX6_word 2 = .ok (.putfield 83, 3) := by decide +kernel
theorem dX6_word_5 : decode cX6_word 5 = .ok (.aload_n 0, 1) := by decide +kernel
theorem dX6_word_6 : decode cX6_word 6 = .ok (.iload_n 1, 1) := by decide +kernel
theorem dX6_word_7 : decode cX6_word 7 = .ok (.invokevirtual 91, 3) := by decide +kernel
theorem dX6_word_10 : decode cX6_word 10 = .ok (.ifCond .ne 6, 3) := by decide +kernel
theorem dX6_word_13 : decode cX6_word 13 = .ok (.bipush (-2), 2) := by decide +kernel
theorem dX6_word_15 : decode cX6_word 15 = .ok (.ireturn, 1) := by decide +kernel
theorem dX6_word_16 : decode cX6_word 16 = .ok (.iload_n 2, 1) := by decide +kernel
theorem dX6_word_17 : decode cX6_word 17 = .ok (.ifCond .eq 18, 3) := by decide +kernel
theorem dX6_word_20 : decode cX6_word 20 = .ok (.iload_n 2, 1) := by decide +kernel
theorem dX6_word_21 : decode cX6_word 21 = .ok (.iconst (-1), 1) := by decide +kernel
theorem dX6_word_22 : decode cX6_word 22 = .ok (.if_icmp .eq 13, 3) := by decide +kernel
theorem dX6_word_25 : decode cX6_word 25 = .ok (.iload_n 2, 1) := by decide +kernel
theorem dX6_word_26 : decode cX6_word 26 = .ok (.invokestatic 95, 3) := by decide +kernel
end
section
theorem dX6_word_29 : decode cX6_word 29 = .ok (.ifCond .ne 6, 3) := by decide +kernel
theorem dX6_word_32 : decode cX6_word 32 = .ok (.bipush (-4), 2) := by decide +kernel
theorem dX6_word_34 : decode cX6_word 34 = .ok (.ireturn, 1) := by decide +kernel
theorem dX6_word_35 : decode cX6_word 35 = .ok (.aload_n 0, 1) := by decide +kernel
theorem dX6_word_36 : decode cX6_word 36 = .ok (.getfield 13, 3) := by decide +kernel
theorem dX6_word_39 : decode cX6_word 39 = .ok (.iload_n 1, 1) := by decide +kernel
theorem dX6_word_40 : decode cX6_word 40 = .ok (.iaload, 1) := by decide +kernel
theorem dX6_word_41 : decode cX6_word 41 = .ok (.sipush 200, 3) := by decide +kernel
theorem dX6_word_44 : decode cX6_word 44 = .ok (.if_icmp .ne 7, 3) := by decide +kernel
theorem dX6_word_47 : decode cX6_word 47 = .ok (.iconst (-1), 1) := by decide +kernel
theorem dX6_word_48 : decode cX6_word 48 = .ok (.goto 9, 3) := by decide +kernel
theorem dX6_word_51 : decode cX6_word 51 = .ok (.aload_n 0, 1) := by decide +kernel
theorem dX6_word_52 : decode cX6_word 52 = .ok (.iload_n 1, 1) := by decide +kernel
theorem dX6_word_53 : decode cX6_word 53 = .ok (.iload_n 2, 1) := by decide +kernel
theorem dX6_word_54 : decode cX6_word 54 = .ok (.invokevirtual 98, 3) := by decide +kernel
theorem dX6_word_57 : decode cX6_word 57 = .ok (.ireturn, 1) := by decide +kernel
theorem dX6_statement_0 : decode cX6_statement 0 = .ok (.aload_n 0, 1) := by decide +kernel
theorem dX6_statement_1 : decode cX6_statement 1 = .ok (.getfield 13, 3) := by decide +kernel
theorem dX6_statement_4 : decode cX6_statement 4 = .ok (.iload_n 1, 1) := by decide +kernel
theorem dX6_statement_5 : decode cX6_statement 5 = .ok (.iaload, 1) := by decide +kernel
theorem dX6_statement_6 : decode cX6_statement 6 = .ok (.sipush 200, 3) := by decide +kernel
theorem dX6_statement_9 : decode cX6_statement 9 = .ok (.if_icmp .eq 12, 3) := by decide +kernel
theorem dX6_statement_12 : decode cX6_statement 12 = .ok (.aload_n 0, 1) := by decide +kernel
theorem dX6_statement_13 : decode cX6_statement 13 = .ok (.getfield 102, 3) := by decide +kernel
theorem dX6_statement_16 : decode cX6_statement 16 = .ok (.bipush 60, 2) := by decide +kernel
theorem dX6_statement_18 : decode cX6_statement 18 = .ok (.if_icmp .ne 5, 3) := by decide +kernel
theorem dX6_statement_21 : decode cX6_statement 21 = .ok (.iconst (-1), 1) := by decide +kernel
theorem dX6_statement_22 : decode cX6_statement 22 = .ok (.ireturn, 1) := by decide +kernel
theorem dX6_statement_23 : decode cX6_statement 23 = .ok (.aload_n 0, 1) := by decide +kernel
theorem dX6_statement_24 : decode cX6_statement 24 = .ok (.dup, 1) := by decide +kernel
theorem dX6_statement_25 : decode cX6_statement 25 = .ok (.getfield 102, 3) := by decide +kernel
theorem dX6_statement_28 : decode cX6_statement 28 = .ok (.iconst 1, 1) := by decide +kernel
theorem dX6_statement_29 : decode cX6_statement 29 = .ok (.iadd, 1) := by decide +kernel
theorem dX6_statement_30 : decode cX6_statement 30 = .ok (.putfield 102, 3) := by decide +kernel
theorem dX6_statement_33 : decode cX6_statement 33 = .ok (.aload_n 0, 1) := by decide +kernel
theorem dX6_statement_34 : decode cX6_statement 34 = .ok (.getfield 28, 3) := by decide +kernel
theorem dX6_statement_37 : decode cX6_statement 37 = .ok (.aload_n 0, 1) := by decide +kernel
theorem dX6_statement_38 : decode cX6_statement 38 = .ok (.getfield 102, 3) := by decide +kernel
theorem dX6_statement_41 : decode cX6_statement 41 = .ok (.iload_n 2, 1) := by decide +kernel
theorem dX6_statement_42 : decode cX6_statement 42 = .ok (.bastore, 1) := by decide +kernel
theorem dX6_statement_43 : decode cX6_statement 43 = .ok (.aload_n 0, 1) := by decide +kernel
theorem dX6_statement_44 : decode cX6_statement 44 = .ok (.getfield 19, 3) := by decide +kernel
theorem dX6_statement_47 : decode cX6_statement 47 = .ok (.aload_n 0, 1) := by decide +kernel
theorem dX6_statement_48 : decode cX6_statement 48 = .ok (.getfield 102, 3) := by decide +kernel
theorem dX6_statement_51 : decode cX6_statement 51 = .ok (.iload_n 3, 1) := by decide +kernel
theorem dX6_statement_52 : decode cX6_statement 52 = .ok (.iastore, 1) := by decide +kernel
theorem dX6_statement_53 : decode cX6_statement 53 = .ok (.aload_n 0, 1) := by decide +kernel
theorem dX6_statement_54 : decode cX6_statement 54 = .ok (.getfield 32, 3) := by decide +kernel
theorem dX6_statement_57 : decode cX6_statement 57 = .ok (.aload_n 0, 1) := by decide +kernel
theorem dX6_statement_58 : decode cX6_statement 58 = .ok (.getfield 102, 3) := by decide +kernel
theorem dX6_statement_61 : decode cX6_statement 61 = .ok (.iload 4, 2) := by decide +kernel
theorem dX6_statement_63 : decode cX6_statement 63 = .ok (.bastore, 1) := by decide +kernel
theorem dX6_statement_64 : decode cX6_statement 64 = .ok (.aload_n 0, 1) := by decide +kernel
theorem dX6_statement_65 : decode cX6_statement 65 = .ok (.iload_n 1, 1) := by decide +kernel
theorem dX6_statement_66 : decode cX6_statement 66 = .ok (.iload_n 2, 1) := by decide +kernel
theorem dX6_statement_67 : decode cX6_statement 67 = .ok (.ifCond .eq 9, 3) := by decide +kernel
theorem dX6_statement_70 : decode cX6_statement 70 = .ok (.sipush (-1000), 3) := by decide +kernel
theorem dX6_statement_73 : decode cX6_statement 73 = .ok (.goto 6, 3) := by decide +kernel
theorem dX6_statement_76 : decode cX6_statement 76 = .ok (.sipush (-2000), 3) := by decide +kernel
theorem dX6_statement_79 : decode cX6_statement 79 = .ok (.aload_n 0, 1) := by decide +kernel
theorem dX6_statement_80 : decode cX6_statement 80 = .ok (.getfield 102, 3) := by decide +kernel
theorem dX6_statement_83 : decode cX6_statement 83 = .ok (.isub, 1) := by decide +kernel
theorem dX6_statement_84 : decode cX6_statement 84 = .ok (.invokevirtual 98, 3) := by decide +kernel
theorem dX6_statement_87 : decode cX6_statement 87 = .ok (.pop, 1) := by decide +kernel
theorem dX6_statement_88 : decode cX6_statement 88 = .ok (.aload_n 0, 1) := by decide +kernel
theorem dX6_statement_89 : decode cX6_statement 89 = .ok (.getfield 102, 3) := by decide +kernel
theorem dX6_statement_92 : decode cX6_statement 92 = .ok (.ireturn, 1) := by decide +kernel
theorem dX6_copy_0 : decode cX6_copy 0 = .ok (.aload_n 0, 1) := by decide +kernel
theorem dX6_copy_1 : decode cX6_copy 1 = .ok (.iconst 0, 1) := by decide +kernel
theorem dX6_copy_2 : decode cX6_copy 2 = .ok (.putfield 83, 3) := by decide +kernel
theorem dX6_copy_5 : decode cX6_copy 5 = .ok (.aload_n 0, 1) := by decide +kernel
theorem dX6_copy_6 : decode cX6_copy 6 = .ok (.iload_n 1, 1) := by decide +kernel
theorem dX6_copy_7 : decode cX6_copy 7 = .ok (.invokevirtual 91, 3) := by decide +kernel
theorem dX6_copy_10 : decode cX6_copy 10 = .ok (.ifCond .ne 6, 3) := by decide +kernel
theorem dX6_copy_13 : decode cX6_copy 13 = .ok (.bipush (-2), 2) := by decide +kernel
theorem dX6_copy_15 : decode cX6_copy 15 = .ok (.ireturn, 1) := by decide +kernel
theorem dX6_copy_16 : decode cX6_copy 16 = .ok (.iload_n 2, 1) := by decide +kernel
theorem dX6_copy_17 : decode cX6_copy 17 = .ok (.ifCond .lt 9, 3) := by decide +kernel
theorem dX6_copy_20 : decode cX6_copy 20 = .ok (.iload_n 2, 1) := by decide +kernel
theorem dX6_copy_21 : decode cX6_copy 21 = .ok (.bipush 99, 2) := by decide +kernel
theorem dX6_copy_23 : decode cX6_copy 23 = .ok (.if_icmp .le 8, 3) := by decide +kernel
theorem dX6_copy_26 : decode cX6_copy 26 = .ok (.bipush (-4), 2) := by decide +kernel
theorem dX6_copy_28 : decode cX6_copy 28 = .ok (.goto 11, 3) := by decide +kernel
theorem dX6_copy_31 : decode cX6_copy 31 = .ok (.aload_n 0, 1) := by decide +kernel
theorem dX6_copy_32 : decode cX6_copy 32 = .ok (.iload_n 1, 1) := by decide +kernel
theorem dX6_copy_33 : decode cX6_copy 33 = .ok (.iconst 1, 1) := by decide +kernel
theorem dX6_copy_34 : decode cX6_copy 34 = .ok (.iload_n 2, 1) := by decide +kernel
theorem dX6_copy_35 : decode cX6_copy 35 = .ok (.iload_n 3, 1) := by decide +kernel
theorem dX6_copy_36 : decode cX6_copy 36 = .ok (.invokevirtual 105, 3) := by decide +kernel
theorem dX6_copy_39 : decode cX6_copy 39 = .ok (.ireturn, 1) := by decide +kernel
theorem dX6_replace_0 : decode cX6_replace 0 = .ok (.aload_n 0, 1) := by decide +kernel
theorem dX6_replace_1 : decode cX6_replace 1 = .ok (.iconst 0, 1) := by decide +kernel
theorem dX6_replace_2 : decode cX6_replace 2 = .ok (.putfield 83, 3) := by decide +kernel
theorem dX6_replace_5 : decode cX6_replace 5 = .ok (.aload_n 0, 1) := by decide +kernel
theorem dX6_replace_6 : decode cX6_replace 6 = .ok (.iload_n 1, 1) := by decide +kernel
theorem dX6_replace_7 : decode cX6_replace 7 = .ok (.invokevirtual 91, 3) := by decide +kernel
theorem dX6_replace_10 : decode cX6_replace 10 = .ok (.ifCond .eq 14, 3) := by decide +kernel
theorem dX6_replace_13 : decode cX6_replace 13 = .ok (.aload_n 0, 1) := by decide +kernel
theorem dX6_replace_14 : decode cX6_replace 14 = .ok (.iload_n 1, 1) := by decide +kernel
theorem dX6_replace_15 : decode cX6_replace 15 = .ok (.iconst 0, 1) := by decide +kernel
theorem dX6_replace_16 : decode cX6_replace 16 = .ok (.iconst 0, 1) := by decide +kernel
theorem dX6_replace_17 : decode cX6_replace 17 = .ok (.iconst 0, 1) := by decide +kernel
theorem dX6_replace_18 : decode cX6_replace 18 = .ok (.invokevirtual 105, 3) := by decide +kernel
theorem dX6_replace_21 : decode cX6_replace 21 = .ok (.goto 5, 3) := by decide +kernel
theorem dX6_replace_24 : decode cX6_replace 24 = .ok (.bipush (-2), 2) := by decide +kernel
theorem dX6_replace_26 : decode cX6_replace 26 = .ok (.ireturn, 1) := by decide +kernel
theorem dX6_off_0 : decode cX6_off 0 = .ok (.aload_n 0, 1) := by decide +kernel
theorem dX6_off_1 : decode cX6_off 1 = .ok (.iconst 0, 1) := by decide +kernel
theorem dX6_off_2 : decode cX6_off 2 = .ok (.putfield 83, 3) := by decide +kernel
theorem dX6_off_5 : decode cX6_off 5 = .ok (.aload_n 0, 1) := by decide +kernel
theorem dX6_off_6 : decode cX6_off 6 = .ok (.iload_n 1, 1) := by decide +kernel
theorem dX6_off_7 : decode cX6_off 7 = .ok (.invokevirtual 91, 3) := by decide +kernel
theorem dX6_off_10 : decode cX6_off 10 = .ok (.ifCond .ne 6, 3) := by decide +kernel
theorem dX6_off_13 : decode cX6_off 13 = .ok (.bipush (-2), 2) := by decide +kernel
theorem dX6_off_15 : decode cX6_off 15 = .ok (.ireturn, 1) := by decide +kernel
theorem dX6_off_16 : decode cX6_off 16 = .ok (.aload_n 0, 1) := by decide +kernel
theorem dX6_off_17 : decode cX6_off 17 = .ok (.getfield 13, 3) := by decide +kernel
theorem dX6_off_20 : decode cX6_off 20 = .ok (.iload_n 1, 1) := by decide +kernel
theorem dX6_off_21 : decode cX6_off 21 = .ok (.iaload, 1) := by decide +kernel
theorem dX6_off_22 : decode cX6_off 22 = .ok (.sipush 200, 3) := by decide +kernel
theorem dX6_off_25 : decode cX6_off 25 = .ok (.if_icmp .ne 7, 3) := by decide +kernel
theorem dX6_off_28 : decode cX6_off 28 = .ok (.iconst (-1), 1) := by decide +kernel
theorem dX6_off_29 : decode cX6_off 29 = .ok (.goto 11, 3) := by decide +kernel
theorem dX6_off_32 : decode cX6_off 32 = .ok (.aload_n 0, 1) := by decide +kernel
theorem dX6_off_33 : decode cX6_off 33 = .ok (.iload_n 1, 1) := by decide +kernel
theorem dX6_off_34 : decode cX6_off 34 = .ok (.sipush (-3000), 3) := by decide +kernel
theorem dX6_off_37 : decode cX6_off 37 = .ok (.invokevirtual 98, 3) := by decide +kernel
theorem dX6_off_40 : decode cX6_off 40 = .ok (.ireturn, 1) := by decide +kernel
theorem dX6_phrase_0 : decode cX6_phrase 0 = .ok (.aload_n 0, 1) := by decide +kernel
theorem dX6_phrase_1 : decode cX6_phrase 1 = .ok (.iconst 0, 1) := by decide +kernel
theorem dX6_phrase_2 : decode cX6_phrase 2 = .ok (.putfield 83, 3) := by decide +kernel
theorem dX6_phrase_5 : decode cX6_phrase 5 = .ok (.iload_n 1, 1) := by decide +kernel
theorem dX6_phrase_6 : decode cX6_phrase 6 = .ok (.iconst 1, 1) := by decide +kernel
theorem dX6_phrase_7 : decode cX6_phrase 7 = .ok (.if_icmp .lt 11, 3) := by decide +kernel
theorem dX6_phrase_10 : decode cX6_phrase 10 = .ok (.iload_n 1, 1) := by decide +kernel
theorem dX6_phrase_11 : decode cX6_phrase 11 = .ok (.aload_n 0, 1) := by decide +kernel
theorem dX6_phrase_12 : decode cX6_phrase 12 = .ok (.getfield 102, 3) := by decide +kernel
theorem dX6_phrase_15 : decode cX6_phrase 15 = .ok (.if_icmp .le 6, 3) := by decide +kernel
theorem dX6_phrase_18 : decode cX6_phrase 18 = .ok (.bipush (-2), 2) := by decide +kernel
theorem dX6_phrase_20 : decode cX6_phrase 20 = .ok (.ireturn, 1) := by decide +kernel
theorem dX6_phrase_21 : decode cX6_phrase 21 = .ok (.iload_n 2, 1) := by decide +kernel
theorem dX6_phrase_22 : decode cX6_phrase 22 = .ok (.ifCond .lt 15, 3) := by decide +kernel
theorem dX6_phrase_25 : decode cX6_phrase 25 = .ok (.iload_n 2, 1) := by decide +kernel
theorem dX6_phrase_26 : decode cX6_phrase 26 = .ok (.iconst 2, 1) := by decide +kernel
theorem dX6_phrase_27 : decode cX6_phrase 27 = .ok (.if_icmp .gt 10, 3) := by decide +kernel
theorem dX6_phrase_30 : decode cX6_phrase 30 = .ok (.iload_n 3, 1) := by decide +kernel
theorem dX6_phrase_31 : decode cX6_phrase 31 = .ok (.invokestatic 95, 3) := by decide +kernel
theorem dX6_phrase_34 : decode cX6_phrase 34 = .ok (.ifCond .ne 6, 3) := by decide +kernel
theorem dX6_phrase_37 : decode cX6_phrase 37 = .ok (.bipush (-4), 2) := by decide +kernel
theorem dX6_phrase_39 : decode cX6_phrase 39 = .ok (.ireturn, 1) := by decide +kernel
theorem dX6_phrase_40 : decode cX6_phrase 40 = .ok (.aload_n 0, 1) := by decide +kernel
theorem dX6_phrase_41 : decode cX6_phrase 41 = .ok (.getfield 109, 3) := by decide +kernel
theorem dX6_phrase_44 : decode cX6_phrase 44 = .ok (.bipush 100, 2) := by decide +kernel
theorem dX6_phrase_46 : decode cX6_phrase 46 = .ok (.if_icmp .eq 14, 3) := by decide +kernel
theorem dX6_phrase_49 : decode cX6_phrase 49 = .ok (.aload_n 0, 1) := by decide +kernel
theorem dX6_phrase_50 : decode cX6_phrase 50 = .ok (.getfield 22, 3) := by decide +kernel
theorem dX6_phrase_53 : decode cX6_phrase 53 = .ok (.iload_n 1, 1) := by decide +kernel
theorem dX6_phrase_54 : decode cX6_phrase 54 = .ok (.iaload, 1) := by decide +kernel
theorem dX6_phrase_55 : decode cX6_phrase 55 = .ok (.bipush 8, 2) := by decide +kernel
theorem dX6_phrase_57 : decode cX6_phrase 57 = .ok (.if_icmp .ne 5, 3) := by decide +kernel
theorem dX6_phrase_60 : decode cX6_phrase 60 = .ok (.iconst (-1), 1) := by decide +kernel
theorem dX6_phrase_61 : decode cX6_phrase 61 = .ok (.ireturn, 1) := by decide +kernel
theorem dX6_phrase_62 : decode cX6_phrase 62 = .ok (.aload_n 0, 1) := by decide +kernel
theorem dX6_phrase_63 : decode cX6_phrase 63 = .ok (.dup, 1) := by decide +kernel
theorem dX6_phrase_64 : decode cX6_phrase 64 = .ok (.getfield 109, 3) := by decide +kernel
theorem dX6_phrase_67 : decode cX6_phrase 67 = .ok (.iconst 1, 1) := by decide +kernel
theorem dX6_phrase_68 : decode cX6_phrase 68 = .ok (.iadd, 1) := by decide +kernel
theorem dX6_phrase_69 : decode cX6_phrase 69 = .ok (.putfield 109, 3) := by decide +kernel
theorem dX6_phrase_72 : decode cX6_phrase 72 = .ok (.aload_n 0, 1) := by decide +kernel
theorem dX6_phrase_73 : decode cX6_phrase 73 = .ok (.getfield 35, 3) := by decide +kernel
theorem dX6_phrase_76 : decode cX6_phrase 76 = .ok (.aload_n 0, 1) := by decide +kernel
theorem dX6_phrase_77 : decode cX6_phrase 77 = .ok (.getfield 109, 3) := by decide +kernel
theorem dX6_phrase_80 : decode cX6_phrase 80 = .ok (.iload_n 2, 1) := by decide +kernel
theorem dX6_phrase_81 : decode cX6_phrase 81 = .ok (.iastore, 1) := by decide +kernel
theorem dX6_phrase_82 : decode cX6_phrase 82 = .ok (.aload_n 0, 1) := by decide +kernel
theorem dX6_phrase_83 : decode cX6_phrase 83 = .ok (.getfield 44, 3) := by decide +kernel
theorem dX6_phrase_86 : decode cX6_phrase 86 = .ok (.bipush 10, 2) := by decide +kernel
theorem dX6_phrase_88 : decode cX6_phrase 88 = .ok (.aload_n 0, 1) := by decide +kernel
theorem dX6_phrase_89 : decode cX6_phrase 89 = .ok (.getfield 109, 3) := by decide +kernel
theorem dX6_phrase_92 : decode cX6_phrase 92 = .ok (.imul, 1) := by decide +kernel
theorem dX6_phrase_93 : decode cX6_phrase 93 = .ok (.bipush 10, 2) := by decide +kernel
theorem dX6_phrase_95 : decode cX6_phrase 95 = .ok (.isub, 1) := by decide +kernel
theorem dX6_phrase_96 : decode cX6_phrase 96 = .ok (.iload_n 3, 1) := by decide +kernel
theorem dX6_phrase_97 : decode cX6_phrase 97 = .ok (.iastore, 1) := by decide +kernel
theorem dX6_phrase_98 : decode cX6_phrase 98 = .ok (.aload_n 0, 1) := by decide +kernel
theorem dX6_phrase_99 : decode cX6_phrase 99 = .ok (.getfield 38, 3) := by decide +kernel
theorem dX6_phrase_102 : decode cX6_phrase 102 = .ok (.aload_n 0, 1) := by decide +kernel
theorem dX6_phrase_103 : decode cX6_phrase 103 = .ok (.getfield 109, 3) := by decide +kernel
theorem dX6_phrase_106 : decode cX6_phrase 106 = .ok (.iconst 1, 1) := by decide +kernel
theorem dX6_phrase_107 : decode cX6_phrase 107 = .ok (.iastore, 1) := by decide +kernel
theorem dX6_phrase_108 : decode cX6_phrase 108 = .ok (.aload_n 0, 1) := by decide +kernel
theorem dX6_phrase_109 : decode cX6_phrase 109 = .ok (.getfield 25, 3) := by decide +kernel
theorem dX6_phrase_112 : decode cX6_phrase 112 = .ok (.bipush 8, 2) := by decide +kernel
theorem dX6_phrase_114 : decode cX6_phrase 114 = .ok (.iload_n 1, 1) := by decide +kernel
theorem dX6_phrase_115 : decode cX6_phrase 115 = .ok (.imul, 1) := by decide +kernel
theorem dX6_phrase_116 : decode cX6_phrase 116 = .ok (.bipush 8, 2) := by decide +kernel
theorem dX6_phrase_118 : decode cX6_phrase 118 = .ok (.isub, 1) := by decide +kernel
theorem dX6_phrase_119 : decode cX6_phrase 119 = .ok (.aload_n 0, 1) := by decide +kernel
theorem dX6_phrase_120 : decode cX6_phrase 120 = .ok (.getfield 22, 3) := by decide +kernel
theorem dX6_phrase_123 : decode cX6_phrase 123 = .ok (.iload_n 1, 1) := by decide +kernel
theorem dX6_phrase_124 : decode cX6_phrase 124 = .ok (.iaload, 1) := by decide +kernel
theorem dX6_phrase_125 : decode cX6_phrase 125 = .ok (.iadd, 1) := by decide +kernel
theorem dX6_phrase_126 : decode cX6_phrase 126 = .ok (.aload_n 0, 1) := by decide +kernel
theorem dX6_phrase_127 : decode cX6_phrase 127 = .ok (.getfield 109, 3) := by decide +kernel
theorem dX6_phrase_130 : decode cX6_phrase 130 = .ok (.iastore, 1) := by decide +kernel
theorem dX6_phrase_131 : decode cX6_phrase 131 = .ok (.aload_n 0, 1) := by decide +kernel
theorem dX6_phrase_132 : decode cX6_phrase 132 = .ok (.getfield 22, 3) := by decide +kernel
theorem dX6_phrase_135 : decode cX6_phrase 135 = .ok (.iload_n 1, 1) := by decide +kernel
theorem dX6_phrase_136 : decode cX6_phrase 136 = .ok (.dup2, 1) := by decide +kernel
theorem dX6_phrase_137 : decode cX6_phrase 137 = .ok (.iaload, 1) := by decide +kernel
theorem dX6_phrase_138 : decode cX6_phrase 138 = .ok (.iconst 1, 1) := by decide +kernel
theorem dX6_phrase_139 : decode cX6_phrase 139 = .ok (.iadd, 1) := by decide +kernel
theorem dX6_phrase_140 : decode cX6_phrase 140 = .ok (.iastore, 1) := by decide +kernel
theorem dX6_phrase_141 : decode cX6_phrase 141 = .ok (.aload_n 0, 1) := by decide +kernel
theorem dX6_phrase_142 : decode cX6_phrase 142 = .ok (.getfield 109, 3) := by decide +kernel
theorem dX6_phrase_145 : decode cX6_phrase 145 = .ok (.ireturn, 1) := by decide +kernel
theorem dX6_from_0 : decode cX6_from 0 = .ok (.aload_n 0, 1) := by decide +kernel
theorem dX6_from_1 : decode cX6_from 1 = .ok (.iconst 0, 1) := by decide +kernel
theorem dX6_from_2 : decode cX6_from 2 = .ok (.putfield 83, 3) := by decide +kernel
theorem dX6_from_5 : decode cX6_from 5 = .ok (.iload_n 1, 1) := by decide +kernel
theorem dX6_from_6 : decode cX6_from 6 = .ok (.iconst 1, 1) := by decide +kernel
theorem dX6_from_7 : decode cX6_from 7 = .ok (.if_icmp .lt 11, 3) := by decide +kernel
theorem dX6_from_10 : decode cX6_from 10 = .ok (.iload_n 1, 1) := by decide +kernel
theorem dX6_from_11 : decode cX6_from 11 = .ok (.aload_n 0, 1) := by decide +kernel
theorem dX6_from_12 : decode cX6_from 12 = .ok (.getfield 109, 3) := by decide +kernel
theorem dX6_from_15 : decode cX6_from 15 = .ok (.if_icmp .le 6, 3) := by decide +kernel
theorem dX6_from_18 : decode cX6_from 18 = .ok (.bipush (-2), 2) := by decide +kernel
theorem dX6_from_20 : decode cX6_from 20 = .ok (.ireturn, 1) := by decide +kernel
theorem dX6_from_21 : decode cX6_from 21 = .ok (.iload_n 2, 1) := by decide +kernel
theorem dX6_from_22 : decode cX6_from 22 = .ok (.ifCond .eq 18, 3) := by decide +kernel
theorem dX6_from_25 : decode cX6_from 25 = .ok (.iload_n 2, 1) := by decide +kernel
theorem dX6_from_26 : decode cX6_from 26 = .ok (.iconst (-1), 1) := by decide +kernel
theorem dX6_from_27 : decode cX6_from 27 = .ok (.if_icmp .eq 13, 3) := by decide +kernel
theorem dX6_from_30 : decode cX6_from 30 = .ok (.iload_n 2, 1) := by decide +kernel
theorem dX6_from_31 : decode cX6_from 31 = .ok (.invokestatic 95, 3) := by decide +kernel
theorem dX6_from_34 : decode cX6_from 34 = .ok (.ifCond .ne 6, 3) := by decide +kernel
theorem dX6_from_37 : decode cX6_from 37 = .ok (.bipush (-4), 2) := by decide +kernel
theorem dX6_from_39 : decode cX6_from 39 = .ok (.ireturn, 1) := by decide +kernel
theorem dX6_from_40 : decode cX6_from 40 = .ok (.aload_n 0, 1) := by decide +kernel
theorem dX6_from_41 : decode cX6_from 41 = .ok (.getfield 35, 3) := by decide +kernel
theorem dX6_from_44 : decode cX6_from 44 = .ok (.iload_n 1, 1) := by decide +kernel
theorem dX6_from_45 : decode cX6_from 45 = .ok (.iaload, 1) := by decide +kernel
theorem dX6_from_46 : decode cX6_from 46 = .ok (.ifCond .ne 14, 3) := by decide +kernel
theorem dX6_from_49 : decode cX6_from 49 = .ok (.aload_n 0, 1) := by decide +kernel
theorem dX6_from_50 : decode cX6_from 50 = .ok (.getfield 38, 3) := by decide +kernel
theorem dX6_from_53 : decode cX6_from 53 = .ok (.iload_n 1, 1) := by decide +kernel
theorem dX6_from_54 : decode cX6_from 54 = .ok (.iaload, 1) := by decide +kernel
theorem dX6_from_55 : decode cX6_from 55 = .ok (.bipush 10, 2) := by decide +kernel
theorem dX6_from_57 : decode cX6_from 57 = .ok (.if_icmp .ne 5, 3) := by decide +kernel
theorem dX6_from_60 : decode cX6_from 60 = .ok (.iconst (-1), 1) := by decide +kernel
theorem dX6_from_61 : decode cX6_from 61 = .ok (.ireturn, 1) := by decide +kernel
theorem dX6_from_62 : decode cX6_from 62 = .ok (.iload_n 2, 1) := by decide +kernel
theorem dX6_from_63 : decode cX6_from 63 = .ok (.ifCond .le 33, 3) := by decide +kernel
theorem dX6_from_66 : decode cX6_from 66 = .ok (.aload_n 0, 1) := by decide +kernel
theorem dX6_from_67 : decode cX6_from 67 = .ok (.getfield 44, 3) := by decide +kernel
theorem dX6_from_70 : decode cX6_from 70 = .ok (.bipush 10, 2) := by decide +kernel
theorem dX6_from_72 : decode cX6_from 72 = .ok (.iload_n 1, 1) := by decide +kernel
theorem dX6_from_73 : decode cX6_from 73 = .ok (.imul, 1) := by decide +kernel
theorem dX6_from_74 : decode cX6_from 74 = .ok (.bipush 10, 2) := by decide +kernel
theorem dX6_from_76 : decode cX6_from 76 = .ok (.isub, 1) := by decide +kernel
theorem dX6_from_77 : decode cX6_from 77 = .ok (.aload_n 0, 1) := by decide +kernel
theorem dX6_from_78 : decode cX6_from 78 = .ok (.getfield 38, 3) := by decide +kernel
theorem dX6_from_81 : decode cX6_from 81 = .ok (.iload_n 1, 1) := by decide +kernel
theorem dX6_from_82 : decode cX6_from 82 = .ok (.iaload, 1) := by decide +kernel
theorem dX6_from_83 : decode cX6_from 83 = .ok (.iadd, 1) := by decide +kernel
theorem dX6_from_84 : decode cX6_from 84 = .ok (.iload_n 2, 1) := by decide +kernel
theorem dX6_from_85 : decode cX6_from 85 = .ok (.iastore, 1) := by decide +kernel
theorem dX6_from_86 : decode cX6_from 86 = .ok (.aload_n 0, 1) := by decide +kernel
theorem dX6_from_87 : decode cX6_from 87 = .ok (.getfield 38, 3) := by decide +kernel
theorem dX6_from_90 : decode cX6_from 90 = .ok (.iload_n 1, 1) := by decide +kernel
theorem dX6_from_91 : decode cX6_from 91 = .ok (.dup2, 1) := by decide +kernel
theorem dX6_from_92 : decode cX6_from 92 = .ok (.iaload, 1) := by decide +kernel
theorem dX6_from_93 : decode cX6_from 93 = .ok (.iconst 1, 1) := by decide +kernel
theorem dX6_from_94 : decode cX6_from 94 = .ok (.iadd, 1) := by decide +kernel
theorem dX6_from_95 : decode cX6_from 95 = .ok (.iastore, 1) := by decide +kernel
theorem dX6_from_96 : decode cX6_from 96 = .ok (.aload_n 0, 1) := by decide +kernel
theorem dX6_from_97 : decode cX6_from 97 = .ok (.getfield 38, 3) := by decide +kernel
theorem dX6_from_100 : decode cX6_from 100 = .ok (.iload_n 1, 1) := by decide +kernel
theorem dX6_from_101 : decode cX6_from 101 = .ok (.iaload, 1) := by decide +kernel
theorem dX6_from_102 : decode cX6_from 102 = .ok (.ireturn, 1) := by decide +kernel
theorem dX6_to_0 : decode cX6_to 0 = .ok (.aload_n 0, 1) := by decide +kernel
theorem dX6_to_1 : decode cX6_to 1 = .ok (.iconst 0, 1) := by decide +kernel
theorem dX6_to_2 : decode cX6_to 2 = .ok (.putfield 83, 3) := by decide +kernel
theorem dX6_to_5 : decode cX6_to 5 = .ok (.iload_n 1, 1) := by decide +kernel
theorem dX6_to_6 : decode cX6_to 6 = .ok (.iconst 1, 1) := by decide +kernel
theorem dX6_to_7 : decode cX6_to 7 = .ok (.if_icmp .lt 11, 3) := by decide +kernel
theorem dX6_to_10 : decode cX6_to 10 = .ok (.iload_n 1, 1) := by decide +kernel
theorem dX6_to_11 : decode cX6_to 11 = .ok (.aload_n 0, 1) := by decide +kernel
theorem dX6_to_12 : decode cX6_to 12 = .ok (.getfield 109, 3) := by decide +kernel
theorem dX6_to_15 : decode cX6_to 15 = .ok (.if_icmp .le 6, 3) := by decide +kernel
theorem dX6_to_18 : decode cX6_to 18 = .ok (.bipush (-2), 2) := by decide +kernel
theorem dX6_to_20 : decode cX6_to 20 = .ok (.ireturn, 1) := by decide +kernel
theorem dX6_to_21 : decode cX6_to 21 = .ok (.iload_n 2, 1) := by decide +kernel
theorem dX6_to_22 : decode cX6_to 22 = .ok (.invokestatic 95, 3) := by decide +kernel
theorem dX6_to_25 : decode cX6_to 25 = .ok (.ifCond .ne 24, 3) := by decide +kernel
theorem dX6_to_28 : decode cX6_to 28 = .ok (.aload_n 0, 1) := by decide +kernel
theorem dX6_to_29 : decode cX6_to 29 = .ok (.getfield 35, 3) := by decide +kernel
theorem dX6_to_32 : decode cX6_to 32 = .ok (.iload_n 1, 1) := by decide +kernel
theorem dX6_to_33 : decode cX6_to 33 = .ok (.iaload, 1) := by decide +kernel
theorem dX6_to_34 : decode cX6_to 34 = .ok (.ifCond .ne 12, 3) := by decide +kernel
theorem dX6_to_37 : decode cX6_to 37 = .ok (.iload_n 2, 1) := by decide +kernel
theorem dX6_to_38 : decode cX6_to 38 = .ok (.ifCond .eq 11, 3) := by decide +kernel
theorem dX6_to_41 : decode cX6_to 41 = .ok (.iload_n 2, 1) := by decide +kernel
theorem dX6_to_42 : decode cX6_to 42 = .ok (.iconst (-1), 1) := by decide +kernel
theorem dX6_to_43 : decode cX6_to 43 = .ok (.if_icmp .eq 6, 3) := by decide +kernel
theorem dX6_to_46 : decode cX6_to 46 = .ok (.bipush (-4), 2) := by decide +kernel
theorem dX6_to_48 : decode cX6_to 48 = .ok (.ireturn, 1) := by decide +kernel
theorem dX6_to_49 : decode cX6_to 49 = .ok (.aload_n 0, 1) := by decide +kernel
theorem dX6_to_50 : decode cX6_to 50 = .ok (.getfield 41, 3) := by decide +kernel
theorem dX6_to_53 : decode cX6_to 53 = .ok (.iload_n 1, 1) := by decide +kernel
theorem dX6_to_54 : decode cX6_to 54 = .ok (.iaload, 1) := by decide +kernel
theorem dX6_to_55 : decode cX6_to 55 = .ok (.aload_n 0, 1) := by decide +kernel
theorem dX6_to_56 : decode cX6_to 56 = .ok (.getfield 35, 3) := by decide +kernel
theorem dX6_to_59 : decode cX6_to 59 = .ok (.iload_n 1, 1) := by decide +kernel
theorem dX6_to_60 : decode cX6_to 60 = .ok (.iaload, 1) := by decide +kernel
theorem dX6_to_61 : decode cX6_to 61 = .ok (.ifCond .ne 8, 3) := by decide +kernel
theorem dX6_to_64 : decode cX6_to 64 = .ok (.bipush 10, 2) := by decide +kernel
theorem dX6_to_66 : decode cX6_to 66 = .ok (.goto 4, 3) := by decide +kernel
theorem dX6_to_69 : decode cX6_to 69 = .ok (.iconst 1, 1) := by decide +kernel
theorem dX6_to_70 : decode cX6_to 70 = .ok (.if_icmp .ne 5, 3) := by decide +kernel
theorem dX6_to_73 : decode cX6_to 73 = .ok (.iconst (-1), 1) := by decide +kernel
theorem dX6_to_74 : decode cX6_to 74 = .ok (.ireturn, 1) := by decide +kernel
theorem dX6_to_75 : decode cX6_to 75 = .ok (.aload_n 0, 1) := by decide +kernel
theorem dX6_to_76 : decode cX6_to 76 = .ok (.getfield 47, 3) := by decide +kernel
theorem dX6_to_79 : decode cX6_to 79 = .ok (.bipush 10, 2) := by decide +kernel
theorem dX6_to_81 : decode cX6_to 81 = .ok (.iload_n 1, 1) := by decide +kernel
theorem dX6_to_82 : decode cX6_to 82 = .ok (.imul, 1) := by decide +kernel
theorem dX6_to_83 : decode cX6_to 83 = .ok (.bipush 10, 2) := by decide +kernel
theorem dX6_to_85 : decode cX6_to 85 = .ok (.isub, 1) := by decide +kernel
theorem dX6_to_86 : decode cX6_to 86 = .ok (.aload_n 0, 1) := by decide +kernel
theorem dX6_to_87 : decode cX6_to 87 = .ok (.getfield 41, 3) := by decide +kernel
theorem dX6_to_90 : decode cX6_to 90 = .ok (.iload_n 1, 1) := by decide +kernel
theorem dX6_to_91 : decode cX6_to 91 = .ok (.iaload, 1) := by decide +kernel
theorem dX6_to_92 : decode cX6_to 92 = .ok (.iadd, 1) := by decide +kernel
theorem dX6_to_93 : decode cX6_to 93 = .ok (.iload_n 2, 1) := by decide +kernel
theorem dX6_to_94 : decode cX6_to 94 = .ok (.iastore, 1) := by decide +kernel
theorem dX6_to_95 : decode cX6_to 95 = .ok (.aload_n 0, 1) := by decide +kernel
theorem dX6_to_96 : decode cX6_to 96 = .ok (.getfield 41, 3) := by decide +kernel
theorem dX6_to_99 : decode cX6_to 99 = .ok (.iload_n 1, 1) := by decide +kernel
theorem dX6_to_100 : decode cX6_to 100 = .ok (.dup2, 1) := by decide +kernel
theorem dX6_to_101 : decode cX6_to 101 = .ok (.iaload, 1) := by decide +kernel
theorem dX6_to_102 : decode cX6_to 102 = .ok (.iconst 1, 1) := by decide +kernel
theorem dX6_to_103 : decode cX6_to 103 = .ok (.iadd, 1) := by decide +kernel
theorem dX6_to_104 : decode cX6_to 104 = .ok (.iastore, 1) := by decide +kernel
theorem dX6_to_105 : decode cX6_to 105 = .ok (.aload_n 0, 1) := by decide +kernel
theorem dX6_to_106 : decode cX6_to 106 = .ok (.getfield 41, 3) := by decide +kernel
theorem dX6_to_109 : decode cX6_to 109 = .ok (.iload_n 1, 1) := by decide +kernel
theorem dX6_to_110 : decode cX6_to 110 = .ok (.iaload, 1) := by decide +kernel
theorem dX6_to_111 : decode cX6_to 111 = .ok (.ireturn, 1) := by decide +kernel
theorem dX6_put_0 : decode cX6_put 0 = .ok (.aload_n 0, 1) := by decide +kernel
theorem dX6_put_1 : decode cX6_put 1 = .ok (.getfield 68, 3) := by decide +kernel
theorem dX6_put_4 : decode cX6_put 4 = .ok (.iload_n 1, 1) := by decide +kernel
theorem dX6_put_5 : decode cX6_put 5 = .ok (.iaload, 1) := by decide +kernel
theorem dX6_put_6 : decode cX6_put 6 = .ok (.sipush 300, 3) := by decide +kernel
theorem dX6_put_9 : decode cX6_put 9 = .ok (.if_icmp .ne 11, 3) := by decide +kernel
theorem dX6_put_12 : decode cX6_put 12 = .ok (.aload_n 0, 1) := by decide +kernel
theorem dX6_put_13 : decode cX6_put 13 = .ok (.bipush (-3), 2) := by decide +kernel
theorem dX6_put_15 : decode cX6_put 15 = .ok (.putfield 112, 3) := by decide +kernel
theorem dX6_put_18 : decode cX6_put 18 = .ok (.iconst 0, 1) := by decide +kernel
theorem dX6_put_19 : decode cX6_put 19 = .ok (.ireturn, 1) := by decide +kernel
theorem dX6_put_20 : decode cX6_put 20 = .ok (.sipush 302, 3) := by decide +kernel
theorem dX6_put_23 : decode cX6_put 23 = .ok (.iload_n 1, 1) := by decide +kernel
theorem dX6_put_24 : decode cX6_put 24 = .ok (.imul, 1) := by decide +kernel
theorem dX6_put_25 : decode cX6_put 25 = .ok (.aload_n 0, 1) := by decide +kernel
theorem dX6_put_26 : decode cX6_put 26 = .ok (.getfield 68, 3) := by decide +kernel
theorem dX6_put_29 : decode cX6_put 29 = .ok (.iload_n 1, 1) := by decide +kernel
theorem dX6_put_30 : decode cX6_put 30 = .ok (.iaload, 1) := by decide +kernel
theorem dX6_put_31 : decode cX6_put 31 = .ok (.iadd, 1) := by decide +kernel
theorem dX6_put_32 : decode cX6_put 32 = .ok (.istore 8, 2) := by decide +kernel
theorem dX6_put_34 : decode cX6_put 34 = .ok (.aload_n 0, 1) := by decide +kernel
theorem dX6_put_35 : decode cX6_put 35 = .ok (.getfield 50, 3) := by decide +kernel
theorem dX6_put_38 : decode cX6_put 38 = .ok (.iload 8, 2) := by decide +kernel
theorem dX6_put_40 : decode cX6_put 40 = .ok (.iload_n 2, 1) := by decide +kernel
theorem dX6_put_41 : decode cX6_put 41 = .ok (.iastore, 1) := by decide +kernel
theorem dX6_put_42 : decode cX6_put 42 = .ok (.aload_n 0, 1) := by decide +kernel
theorem dX6_put_43 : decode cX6_put 43 = .ok (.getfield 53, 3) := by decide +kernel
theorem dX6_put_46 : decode cX6_put 46 = .ok (.iload 8, 2) := by decide +kernel
theorem dX6_put_48 : decode cX6_put 48 = .ok (.iload_n 3, 1) := by decide +kernel
theorem dX6_put_49 : decode cX6_put 49 = .ok (.iastore, 1) := by decide +kernel
theorem dX6_put_50 : decode cX6_put 50 = .ok (.aload_n 0, 1) := by decide +kernel
theorem dX6_put_51 : decode cX6_put 51 = .ok (.getfield 56, 3) := by decide +kernel
theorem dX6_put_54 : decode cX6_put 54 = .ok (.iload 8, 2) := by decide +kernel
theorem dX6_put_56 : decode cX6_put 56 = .ok (.iload 4, 2) := by decide +kernel
theorem dX6_put_58 : decode cX6_put 58 = .ok (.iastore, 1) := by decide +kernel
theorem dX6_put_59 : decode cX6_put 59 = .ok (.aload_n 0, 1) := by decide +kernel
theorem dX6_put_60 : decode cX6_put 60 = .ok (.getfield 59, 3) := by decide +kernel
theorem dX6_put_63 : decode cX6_put 63 = .ok (.iload 8, 2) := by decide +kernel
theorem dX6_put_65 : decode cX6_put 65 = .ok (.iload 5, 2) := by decide +kernel
theorem dX6_put_67 : decode cX6_put 67 = .ok (.iastore, 1) := by decide +kernel
theorem dX6_put_68 : decode cX6_put 68 = .ok (.aload_n 0, 1) := by decide +kernel
theorem dX6_put_69 : decode cX6_put 69 = .ok (.getfield 62, 3) := by decide +kernel
theorem dX6_put_72 : decode cX6_put 72 = .ok (.iload 8, 2) := by decide +kernel
theorem dX6_put_74 : decode cX6_put 74 = .ok (.iload 6, 2) := by decide +kernel
theorem dX6_put_76 : decode cX6_put 76 = .ok (.iastore, 1) := by decide +kernel
theorem dX6_put_77 : decode cX6_put 77 = .ok (.aload_n 0, 1) := by decide +kernel
theorem dX6_put_78 : decode cX6_put 78 = .ok (.getfield 65, 3) := by decide +kernel
theorem dX6_put_81 : decode cX6_put 81 = .ok (.iload 8, 2) := by decide +kernel
theorem dX6_put_83 : decode cX6_put 83 = .ok (.iload 7, 2) := by decide +kernel
theorem dX6_put_85 : decode cX6_put 85 = .ok (.iastore, 1) := by decide +kernel
theorem dX6_put_86 : decode cX6_put 86 = .ok (.aload_n 0, 1) := by decide +kernel
theorem dX6_put_87 : decode cX6_put 87 = .ok (.getfield 68, 3) := by decide +kernel
theorem dX6_put_90 : decode cX6_put 90 = .ok (.iload_n 1, 1) := by decide +kernel
theorem dX6_put_91 : decode cX6_put 91 = .ok (.dup2, 1) := by decide +kernel
theorem dX6_put_92 : decode cX6_put 92 = .ok (.iaload, 1) := by decide +kernel
theorem dX6_put_93 : decode cX6_put 93 = .ok (.iconst 1, 1) := by decide +kernel
theorem dX6_put_94 : decode cX6_put 94 = .ok (.iadd, 1) := by decide +kernel
theorem dX6_put_95 : decode cX6_put 95 = .ok (.iastore, 1) := by decide +kernel
theorem dX6_put_96 : decode cX6_put 96 = .ok (.iconst 1, 1) := by decide +kernel
theorem dX6_put_97 : decode cX6_put 97 = .ok (.ireturn, 1) := by decide +kernel
theorem dX6_again_0 : decode cX6_again 0 = .ok (.aload_n 0, 1) := by decide +kernel
theorem dX6_again_1 : decode cX6_again 1 = .ok (.iload_n 1, 1) := by decide +kernel
theorem dX6_again_2 : decode cX6_again 2 = .ok (.aload_n 0, 1) := by decide +kernel
theorem dX6_again_3 : decode cX6_again 3 = .ok (.getfield 50, 3) := by decide +kernel
theorem dX6_again_6 : decode cX6_again 6 = .ok (.iload_n 2, 1) := by decide +kernel
theorem dX6_again_7 : decode cX6_again 7 = .ok (.iaload, 1) := by decide +kernel
theorem dX6_again_8 : decode cX6_again 8 = .ok (.aload_n 0, 1) := by decide +kernel
theorem dX6_again_9 : decode cX6_again 9 = .ok (.getfield 53, 3) := by decide +kernel
theorem dX6_again_12 : decode cX6_again 12 = .ok (.iload_n 2, 1) := by decide +kernel
theorem dX6_again_13 : decode cX6_again 13 = .ok (.iaload, 1) := by decide +kernel
theorem dX6_again_14 : decode cX6_again 14 = .ok (.aload_n 0, 1) := by decide +kernel
theorem dX6_again_15 : decode cX6_again 15 = .ok (.getfield 56, 3) := by decide +kernel
theorem dX6_again_18 : decode cX6_again 18 = .ok (.iload_n 2, 1) := by decide +kernel
theorem dX6_again_19 : decode cX6_again 19 = .ok (.iaload, 1) := by decide +kernel
theorem dX6_again_20 : decode cX6_again 20 = .ok (.aload_n 0, 1) := by decide +kernel
theorem dX6_again_21 : decode cX6_again 21 = .ok (.getfield 59, 3) := by decide +kernel
theorem dX6_again_24 : decode cX6_again 24 = .ok (.iload_n 2, 1) := by decide +kernel
theorem dX6_again_25 : decode cX6_again 25 = .ok (.iaload, 1) := by decide +kernel
theorem dX6_again_26 : decode cX6_again 26 = .ok (.aload_n 0, 1) := by decide +kernel
theorem dX6_again_27 : decode cX6_again 27 = .ok (.getfield 62, 3) := by decide +kernel
theorem dX6_again_30 : decode cX6_again 30 = .ok (.iload_n 2, 1) := by decide +kernel
theorem dX6_again_31 : decode cX6_again 31 = .ok (.iaload, 1) := by decide +kernel
theorem dX6_again_32 : decode cX6_again 32 = .ok (.aload_n 0, 1) := by decide +kernel
theorem dX6_again_33 : decode cX6_again 33 = .ok (.getfield 65, 3) := by decide +kernel
theorem dX6_again_36 : decode cX6_again 36 = .ok (.iload_n 2, 1) := by decide +kernel
theorem dX6_again_37 : decode cX6_again 37 = .ok (.iaload, 1) := by decide +kernel
theorem dX6_again_38 : decode cX6_again 38 = .ok (.invokevirtual 115, 3) := by decide +kernel
theorem dX6_again_41 : decode cX6_again 41 = .ok (.ireturn, 1) := by decide +kernel
theorem dX6_letters_0 : decode cX6_letters 0 = .ok (.iconst 0, 1) := by decide +kernel
theorem dX6_letters_1 : decode cX6_letters 1 = .ok (.istore_n 1, 1) := by decide +kernel
theorem dX6_letters_2 : decode cX6_letters 2 = .ok (.iload_n 0, 1) := by decide +kernel
theorem dX6_letters_3 : decode cX6_letters 3 = .ok (.istore_n 2, 1) := by decide +kernel
theorem dX6_letters_4 : decode cX6_letters 4 = .ok (.iload_n 2, 1) := by decide +kernel
theorem dX6_letters_5 : decode cX6_letters 5 = .ok (.ifCond .le 14, 3) := by decide +kernel
theorem dX6_letters_8 : decode cX6_letters 8 = .ok (.iinc 1 1, 3) := by decide +kernel
theorem dX6_letters_11 : decode cX6_letters 11 = .ok (.iload_n 2, 1) := by decide +kernel
theorem dX6_letters_12 : decode cX6_letters 12 = .ok (.bipush 27, 2) := by decide +kernel
theorem dX6_letters_14 : decode cX6_letters 14 = .ok (.idiv, 1) := by decide +kernel
theorem dX6_letters_15 : decode cX6_letters 15 = .ok (.istore_n 2, 1) := by decide +kernel
theorem dX6_letters_16 : decode cX6_letters 16 = .ok (.goto (-12), 3) := by decide +kernel
theorem dX6_letters_19 : decode cX6_letters 19 = .ok (.iload_n 1, 1) := by decide +kernel
theorem dX6_letters_20 : decode cX6_letters 20 = .ok (.ireturn, 1) := by decide +kernel
theorem dX6_power_0 : decode cX6_power 0 = .ok (.iconst 1, 1) := by decide +kernel
theorem dX6_power_1 : decode cX6_power 1 = .ok (.istore_n 1, 1) := by decide +kernel
theorem dX6_power_2 : decode cX6_power 2 = .ok (.iconst 0, 1) := by decide +kernel
theorem dX6_power_3 : decode cX6_power 3 = .ok (.istore_n 2, 1) := by decide +kernel
theorem dX6_power_4 : decode cX6_power 4 = .ok (.iload_n 2, 1) := by decide +kernel
theorem dX6_power_5 : decode cX6_power 5 = .ok (.iload_n 0, 1) := by decide +kernel
theorem dX6_power_6 : decode cX6_power 6 = .ok (.if_icmp .ge 14, 3) := by decide +kernel
theorem dX6_power_9 : decode cX6_power 9 = .ok (.iload_n 1, 1) := by decide +kernel
theorem dX6_power_10 : decode cX6_power 10 = .ok (.bipush 27, 2) := by decide +kernel
theorem dX6_power_12 : decode cX6_power 12 = .ok (.imul, 1) := by decide +kernel
theorem dX6_power_13 : decode cX6_power 13 = .ok (.istore_n 1, 1) := by decide +kernel
theorem dX6_power_14 : decode cX6_power 14 = .ok (.iinc 2 1, 3) := by decide +kernel
theorem dX6_power_17 : decode cX6_power 17 = .ok (.goto (-13), 3) := by decide +kernel
theorem dX6_power_20 : decode cX6_power 20 = .ok (.iload_n 1, 1) := by decide +kernel
theorem dX6_power_21 : decode cX6_power 21 = .ok (.ireturn, 1) := by decide +kernel
theorem dX6_behind_0 : decode cX6_behind 0 = .ok (.iload_n 2, 1) := by decide +kernel
theorem dX6_behind_1 : decode cX6_behind 1 = .ok (.istore 4, 2) := by decide +kernel
theorem dX6_behind_3 : decode cX6_behind 3 = .ok (.iconst 0, 1) := by decide +kernel
theorem dX6_behind_4 : decode cX6_behind 4 = .ok (.istore 5, 2) := by decide +kernel
theorem dX6_behind_6 : decode cX6_behind 6 = .ok (.iload 5, 2) := by decide +kernel
theorem dX6_behind_8 : decode cX6_behind 8 = .ok (.aload_n 0, 1) := by decide +kernel
theorem dX6_behind_9 : decode cX6_behind 9 = .ok (.getfield 38, 3) := by decide +kernel
theorem dX6_behind_12 : decode cX6_behind 12 = .ok (.iload_n 1, 1) := by decide +kernel
theorem dX6_behind_13 : decode cX6_behind 13 = .ok (.iaload, 1) := by decide +kernel
theorem dX6_behind_14 : decode cX6_behind 14 = .ok (.if_icmp .ge 83, 3) := by decide +kernel
theorem dX6_behind_17 : decode cX6_behind 17 = .ok (.iload 5, 2) := by decide +kernel
theorem dX6_behind_19 : decode cX6_behind 19 = .ok (.ifCond .le 36, 3) := by decide +kernel
theorem dX6_behind_22 : decode cX6_behind 22 = .ok (.iload 4, 2) := by decide +kernel
theorem dX6_behind_24 : decode cX6_behind 24 = .ok (.iload_n 3, 1) := by decide +kernel
theorem dX6_behind_25 : decode cX6_behind 25 = .ok (.if_icmp .ge 30, 3) := by decide +kernel
theorem dX6_behind_28 : decode cX6_behind 28 = .ok (.aload_n 0, 1) := by decide +kernel
theorem dX6_behind_29 : decode cX6_behind 29 = .ok (.getfield 50, 3) := by decide +kernel
theorem dX6_behind_32 : decode cX6_behind 32 = .ok (.iload 4, 2) := by decide +kernel
theorem dX6_behind_34 : decode cX6_behind 34 = .ok (.iaload, 1) := by decide +kernel
theorem dX6_behind_35 : decode cX6_behind 35 = .ok (.ifCond .eq 14, 3) := by decide +kernel
theorem dX6_behind_38 : decode cX6_behind 38 = .ok (.aload_n 0, 1) := by decide +kernel
theorem dX6_behind_39 : decode cX6_behind 39 = .ok (.getfield 50, 3) := by decide +kernel
theorem dX6_behind_42 : decode cX6_behind 42 = .ok (.iload 4, 2) := by decide +kernel
theorem dX6_behind_44 : decode cX6_behind 44 = .ok (.iaload, 1) := by decide +kernel
theorem dX6_behind_45 : decode cX6_behind 45 = .ok (.iconst (-1), 1) := by decide +kernel
theorem dX6_behind_46 : decode cX6_behind 46 = .ok (.if_icmp .ne 9, 3) := by decide +kernel
theorem dX6_behind_49 : decode cX6_behind 49 = .ok (.iinc 4 1, 3) := by decide +kernel
theorem dX6_behind_52 : decode cX6_behind 52 = .ok (.goto (-35), 3) := by decide +kernel
theorem dX6_behind_55 : decode cX6_behind 55 = .ok (.iload 4, 2) := by decide +kernel
theorem dX6_behind_57 : decode cX6_behind 57 = .ok (.iload_n 3, 1) := by decide +kernel
theorem dX6_behind_58 : decode cX6_behind 58 = .ok (.if_icmp .eq 28, 3) := by decide +kernel
theorem dX6_behind_61 : decode cX6_behind 61 = .ok (.aload_n 0, 1) := by decide +kernel
theorem dX6_behind_62 : decode cX6_behind 62 = .ok (.getfield 50, 3) := by decide +kernel
theorem dX6_behind_65 : decode cX6_behind 65 = .ok (.iload 4, 2) := by decide +kernel
theorem dX6_behind_67 : decode cX6_behind 67 = .ok (.iaload, 1) := by decide +kernel
theorem dX6_behind_68 : decode cX6_behind 68 = .ok (.aload_n 0, 1) := by decide +kernel
theorem dX6_behind_69 : decode cX6_behind 69 = .ok (.getfield 44, 3) := by decide +kernel
theorem dX6_behind_72 : decode cX6_behind 72 = .ok (.bipush 10, 2) := by decide +kernel
theorem dX6_behind_74 : decode cX6_behind 74 = .ok (.iload_n 1, 1) := by decide +kernel
theorem dX6_behind_75 : decode cX6_behind 75 = .ok (.imul, 1) := by decide +kernel
theorem dX6_behind_76 : decode cX6_behind 76 = .ok (.bipush 10, 2) := by decide +kernel
theorem dX6_behind_78 : decode cX6_behind 78 = .ok (.isub, 1) := by decide +kernel
theorem dX6_behind_79 : decode cX6_behind 79 = .ok (.iload 5, 2) := by decide +kernel
theorem dX6_behind_81 : decode cX6_behind 81 = .ok (.iadd, 1) := by decide +kernel
theorem dX6_behind_82 : decode cX6_behind 82 = .ok (.iaload, 1) := by decide +kernel
theorem dX6_behind_83 : decode cX6_behind 83 = .ok (.if_icmp .eq 5, 3) := by decide +kernel
theorem dX6_behind_86 : decode cX6_behind 86 = .ok (.iconst 0, 1) := by decide +kernel
theorem dX6_behind_87 : decode cX6_behind 87 = .ok (.ireturn, 1) := by decide +kernel
theorem dX6_behind_88 : decode cX6_behind 88 = .ok (.iinc 4 1, 3) := by decide +kernel
theorem dX6_behind_91 : decode cX6_behind 91 = .ok (.iinc 5 1, 3) := by decide +kernel
theorem dX6_behind_94 : decode cX6_behind 94 = .ok (.goto (-88), 3) := by decide +kernel
theorem dX6_behind_97 : decode cX6_behind 97 = .ok (.iload 4, 2) := by decide +kernel
theorem dX6_behind_99 : decode cX6_behind 99 = .ok (.ireturn, 1) := by decide +kernel
theorem dX6_hasPart_0 : decode cX6_hasPart 0 = .ok (.aload_n 0, 1) := by decide +kernel
theorem dX6_hasPart_1 : decode cX6_hasPart 1 = .ok (.getfield 44, 3) := by decide +kernel
theorem dX6_hasPart_4 : decode cX6_hasPart 4 = .ok (.bipush 10, 2) := by decide +kernel
theorem dX6_hasPart_6 : decode cX6_hasPart 6 = .ok (.iload_n 1, 1) := by decide +kernel
theorem dX6_hasPart_7 : decode cX6_hasPart 7 = .ok (.imul, 1) := by decide +kernel
theorem dX6_hasPart_8 : decode cX6_hasPart 8 = .ok (.bipush 10, 2) := by decide +kernel
theorem dX6_hasPart_10 : decode cX6_hasPart 10 = .ok (.isub, 1) := by decide +kernel
theorem dX6_hasPart_11 : decode cX6_hasPart 11 = .ok (.iaload, 1) := by decide +kernel
theorem dX6_hasPart_12 : decode cX6_hasPart 12 = .ok (.istore_n 3, 1) := by decide +kernel
theorem dX6_hasPart_13 : decode cX6_hasPart 13 = .ok (.iload_n 2, 1) := by decide +kernel
theorem dX6_hasPart_14 : decode cX6_hasPart 14 = .ok (.invokestatic 119, 3) := by decide +kernel
theorem dX6_hasPart_17 : decode cX6_hasPart 17 = .ok (.iload_n 3, 1) := by decide +kernel
theorem dX6_hasPart_18 : decode cX6_hasPart 18 = .ok (.invokestatic 119, 3) := by decide +kernel
theorem dX6_hasPart_21 : decode cX6_hasPart 21 = .ok (.isub, 1) := by decide +kernel
theorem dX6_hasPart_22 : decode cX6_hasPart 22 = .ok (.istore 4, 2) := by decide +kernel
theorem dX6_hasPart_24 : decode cX6_hasPart 24 = .ok (.iload 4, 2) := by decide +kernel
theorem dX6_hasPart_26 : decode cX6_hasPart 26 = .ok (.iconst 1, 1) := by decide +kernel
theorem dX6_hasPart_27 : decode cX6_hasPart 27 = .ok (.if_icmp .ge 5, 3) := by decide +kernel
theorem dX6_hasPart_30 : decode cX6_hasPart 30 = .ok (.iconst 0, 1) := by decide +kernel
theorem dX6_hasPart_31 : decode cX6_hasPart 31 = .ok (.ireturn, 1) := by decide +kernel
theorem dX6_hasPart_32 : decode cX6_hasPart 32 = .ok (.aload_n 0, 1) := by decide +kernel
theorem dX6_hasPart_33 : decode cX6_hasPart 33 = .ok (.getfield 35, 3) := by decide +kernel
theorem dX6_hasPart_36 : decode cX6_hasPart 36 = .ok (.iload_n 1, 1) := by decide +kernel
theorem dX6_hasPart_37 : decode cX6_hasPart 37 = .ok (.iaload, 1) := by decide +kernel
theorem dX6_hasPart_38 : decode cX6_hasPart 38 = .ok (.iconst 1, 1) := by decide +kernel
theorem dX6_hasPart_39 : decode cX6_hasPart 39 = .ok (.if_icmp .ne 22, 3) := by decide +kernel
theorem dX6_hasPart_42 : decode cX6_hasPart 42 = .ok (.iload_n 2, 1) := by decide +kernel
theorem dX6_hasPart_43 : decode cX6_hasPart 43 = .ok (.iload 4, 2) := by decide +kernel
theorem dX6_hasPart_45 : decode cX6_hasPart 45 = .ok (.invokestatic 123, 3) := by decide +kernel
theorem dX6_hasPart_48 : decode cX6_hasPart 48 = .ok (.idiv, 1) := by decide +kernel
theorem dX6_hasPart_49 : decode cX6_hasPart 49 = .ok (.iload_n 3, 1) := by decide +kernel
theorem dX6_hasPart_50 : decode cX6_hasPart 50 = .ok (.if_icmp .ne 7, 3) := by decide +kernel
theorem dX6_hasPart_53 : decode cX6_hasPart 53 = .ok (.iconst 1, 1) := by decide +kernel
theorem dX6_hasPart_54 : decode cX6_hasPart 54 = .ok (.goto 25, 3) := by decide +kernel
theorem dX6_hasPart_57 : decode cX6_hasPart 57 = .ok (.iconst 0, 1) := by decide +kernel
theorem dX6_hasPart_58 : decode cX6_hasPart 58 = .ok (.goto 21, 3) := by decide +kernel
theorem dX6_hasPart_61 : decode cX6_hasPart 61 = .ok (.iload_n 2, 1) := by decide +kernel
theorem dX6_hasPart_62 : decode cX6_hasPart 62 = .ok (.iload_n 3, 1) := by decide +kernel
theorem dX6_hasPart_63 : decode cX6_hasPart 63 = .ok (.invokestatic 119, 3) := by decide +kernel
theorem dX6_hasPart_66 : decode cX6_hasPart 66 = .ok (.invokestatic 123, 3) := by decide +kernel
theorem dX6_hasPart_69 : decode cX6_hasPart 69 = .ok (.irem, 1) := by decide +kernel
theorem dX6_hasPart_70 : decode cX6_hasPart 70 = .ok (.iload_n 3, 1) := by decide +kernel
theorem dX6_hasPart_71 : decode cX6_hasPart 71 = .ok (.if_icmp .ne 7, 3) := by decide +kernel
theorem dX6_hasPart_74 : decode cX6_hasPart 74 = .ok (.iconst 1, 1) := by decide +kernel
theorem dX6_hasPart_75 : decode cX6_hasPart 75 = .ok (.goto 4, 3) := by decide +kernel
theorem dX6_hasPart_78 : decode cX6_hasPart 78 = .ok (.iconst 0, 1) := by decide +kernel
theorem dX6_hasPart_79 : decode cX6_hasPart 79 = .ok (.ireturn, 1) := by decide +kernel
theorem dX6_changed_0 : decode cX6_changed 0 = .ok (.aload_n 0, 1) := by decide +kernel
theorem dX6_changed_1 : decode cX6_changed 1 = .ok (.getfield 44, 3) := by decide +kernel
theorem dX6_changed_4 : decode cX6_changed 4 = .ok (.bipush 10, 2) := by decide +kernel
theorem dX6_changed_6 : decode cX6_changed 6 = .ok (.iload_n 1, 1) := by decide +kernel
theorem dX6_changed_7 : decode cX6_changed 7 = .ok (.imul, 1) := by decide +kernel
theorem dX6_changed_8 : decode cX6_changed 8 = .ok (.bipush 10, 2) := by decide +kernel
theorem dX6_changed_10 : decode cX6_changed 10 = .ok (.isub, 1) := by decide +kernel
theorem dX6_changed_11 : decode cX6_changed 11 = .ok (.iaload, 1) := by decide +kernel
theorem dX6_changed_12 : decode cX6_changed 12 = .ok (.invokestatic 119, 3) := by decide +kernel
theorem dX6_changed_15 : decode cX6_changed 15 = .ok (.istore_n 3, 1) := by decide +kernel
theorem dX6_changed_16 : decode cX6_changed 16 = .ok (.iload_n 2, 1) := by decide +kernel
theorem dX6_changed_17 : decode cX6_changed 17 = .ok (.invokestatic 119, 3) := by decide +kernel
theorem dX6_changed_20 : decode cX6_changed 20 = .ok (.iload_n 3, 1) := by decide +kernel
theorem dX6_changed_21 : decode cX6_changed 21 = .ok (.isub, 1) := by decide +kernel
theorem dX6_changed_22 : decode cX6_changed 22 = .ok (.istore 4, 2) := by decide +kernel
theorem dX6_changed_24 : decode cX6_changed 24 = .ok (.aload_n 0, 1) := by decide +kernel
theorem dX6_changed_25 : decode cX6_changed 25 = .ok (.getfield 41, 3) := by decide +kernel
theorem dX6_changed_28 : decode cX6_changed 28 = .ok (.iload_n 1, 1) := by decide +kernel
theorem dX6_changed_29 : decode cX6_changed 29 = .ok (.iaload, 1) := by decide +kernel
theorem dX6_changed_30 : decode cX6_changed 30 = .ok (.ifCond .le 18, 3) := by decide +kernel
theorem dX6_changed_33 : decode cX6_changed 33 = .ok (.aload_n 0, 1) := by decide +kernel
theorem dX6_changed_34 : decode cX6_changed 34 = .ok (.getfield 47, 3) := by decide +kernel
theorem dX6_changed_37 : decode cX6_changed 37 = .ok (.bipush 10, 2) := by decide +kernel
theorem dX6_changed_39 : decode cX6_changed 39 = .ok (.iload_n 1, 1) := by decide +kernel
theorem dX6_changed_40 : decode cX6_changed 40 = .ok (.imul, 1) := by decide +kernel
theorem dX6_changed_41 : decode cX6_changed 41 = .ok (.bipush 10, 2) := by decide +kernel
theorem dX6_changed_43 : decode cX6_changed 43 = .ok (.isub, 1) := by decide +kernel
theorem dX6_changed_44 : decode cX6_changed 44 = .ok (.iaload, 1) := by decide +kernel
theorem dX6_changed_45 : decode cX6_changed 45 = .ok (.goto 4, 3) := by decide +kernel
theorem dX6_changed_48 : decode cX6_changed 48 = .ok (.iconst 0, 1) := by decide +kernel
theorem dX6_changed_49 : decode cX6_changed 49 = .ok (.istore 5, 2) := by decide +kernel
theorem dX6_changed_51 : decode cX6_changed 51 = .ok (.iload 4, 2) := by decide +kernel
theorem dX6_changed_53 : decode cX6_changed 53 = .ok (.iload 5, 2) := by decide +kernel
theorem dX6_changed_55 : decode cX6_changed 55 = .ok (.invokestatic 119, 3) := by decide +kernel
theorem dX6_changed_58 : decode cX6_changed 58 = .ok (.iadd, 1) := by decide +kernel
theorem dX6_changed_59 : decode cX6_changed 59 = .ok (.bipush 6, 2) := by decide +kernel
theorem dX6_changed_61 : decode cX6_changed 61 = .ok (.if_icmp .le 5, 3) := by decide +kernel
theorem dX6_changed_64 : decode cX6_changed 64 = .ok (.iconst 0, 1) := by decide +kernel
theorem dX6_changed_65 : decode cX6_changed 65 = .ok (.ireturn, 1) := by decide +kernel
theorem dX6_changed_66 : decode cX6_changed 66 = .ok (.aload_n 0, 1) := by decide +kernel
theorem dX6_changed_67 : decode cX6_changed 67 = .ok (.getfield 35, 3) := by decide +kernel
theorem dX6_changed_70 : decode cX6_changed 70 = .ok (.iload_n 1, 1) := by decide +kernel
theorem dX6_changed_71 : decode cX6_changed 71 = .ok (.iaload, 1) := by decide +kernel
theorem dX6_changed_72 : decode cX6_changed 72 = .ok (.iconst 1, 1) := by decide +kernel
theorem dX6_changed_73 : decode cX6_changed 73 = .ok (.if_icmp .ne 22, 3) := by decide +kernel
theorem dX6_changed_76 : decode cX6_changed 76 = .ok (.iload 5, 2) := by decide +kernel
theorem dX6_changed_78 : decode cX6_changed 78 = .ok (.iload 4, 2) := by decide +kernel
theorem dX6_changed_80 : decode cX6_changed 80 = .ok (.invokestatic 123, 3) := by decide +kernel
theorem dX6_changed_83 : decode cX6_changed 83 = .ok (.imul, 1) := by decide +kernel
theorem dX6_changed_84 : decode cX6_changed 84 = .ok (.iload_n 2, 1) := by decide +kernel
theorem dX6_changed_85 : decode cX6_changed 85 = .ok (.iload 4, 2) := by decide +kernel
theorem dX6_changed_87 : decode cX6_changed 87 = .ok (.invokestatic 123, 3) := by decide +kernel
theorem dX6_changed_90 : decode cX6_changed 90 = .ok (.irem, 1) := by decide +kernel
theorem dX6_changed_91 : decode cX6_changed 91 = .ok (.iadd, 1) := by decide +kernel
theorem dX6_changed_92 : decode cX6_changed 92 = .ok (.goto 21, 3) := by decide +kernel
theorem dX6_changed_95 : decode cX6_changed 95 = .ok (.iload_n 2, 1) := by decide +kernel
theorem dX6_changed_96 : decode cX6_changed 96 = .ok (.iload_n 3, 1) := by decide +kernel
theorem dX6_changed_97 : decode cX6_changed 97 = .ok (.invokestatic 123, 3) := by decide +kernel
theorem dX6_changed_100 : decode cX6_changed 100 = .ok (.idiv, 1) := by decide +kernel
theorem dX6_changed_101 : decode cX6_changed 101 = .ok (.iload 5, 2) := by decide +kernel
theorem dX6_changed_103 : decode cX6_changed 103 = .ok (.invokestatic 119, 3) := by decide +kernel
theorem dX6_changed_106 : decode cX6_changed 106 = .ok (.invokestatic 123, 3) := by decide +kernel
theorem dX6_changed_109 : decode cX6_changed 109 = .ok (.imul, 1) := by decide +kernel
theorem dX6_changed_110 : decode cX6_changed 110 = .ok (.iload 5, 2) := by decide +kernel
theorem dX6_changed_112 : decode cX6_changed 112 = .ok (.iadd, 1) := by decide +kernel
theorem dX6_changed_113 : decode cX6_changed 113 = .ok (.ireturn, 1) := by decide +kernel
theorem dX6_step_0 : decode cX6_step 0 = .ok (.iconst 0, 1) := by decide +kernel
theorem dX6_step_1 : decode cX6_step 1 = .ok (.istore 5, 2) := by decide +kernel
theorem dX6_step_3 : decode cX6_step 3 = .ok (.iload 5, 2) := by decide +kernel
theorem dX6_step_5 : decode cX6_step 5 = .ok (.aload_n 0, 1) := by decide +kernel
theorem dX6_step_6 : decode cX6_step 6 = .ok (.getfield 22, 3) := by decide +kernel
theorem dX6_step_9 : decode cX6_step 9 = .ok (.iload_n 1, 1) := by decide +kernel
theorem dX6_step_10 : decode cX6_step 10 = .ok (.iaload, 1) := by decide +kernel
theorem dX6_step_11 : decode cX6_step 11 = .ok (.if_icmp .ge 253, 3) := by decide +kernel
theorem dX6_step_14 : decode cX6_step 14 = .ok (.aload_n 0, 1) := by decide +kernel
theorem dX6_step_15 : decode cX6_step 15 = .ok (.getfield 50, 3) := by decide +kernel
theorem dX6_step_18 : decode cX6_step 18 = .ok (.iload_n 2, 1) := by decide +kernel
theorem dX6_step_19 : decode cX6_step 19 = .ok (.iaload, 1) := by decide +kernel
theorem dX6_step_20 : decode cX6_step 20 = .ok (.ifCond .le 244, 3) := by decide +kernel
theorem dX6_step_23 : decode cX6_step 23 = .ok (.aload_n 0, 1) := by decide +kernel
theorem dX6_step_24 : decode cX6_step 24 = .ok (.getfield 25, 3) := by decide +kernel
theorem dX6_step_27 : decode cX6_step 27 = .ok (.bipush 8, 2) := by decide +kernel
theorem dX6_step_29 : decode cX6_step 29 = .ok (.iload_n 1, 1) := by decide +kernel
theorem dX6_step_30 : decode cX6_step 30 = .ok (.imul, 1) := by decide +kernel
theorem dX6_step_31 : decode cX6_step 31 = .ok (.bipush 8, 2) := by decide +kernel
theorem dX6_step_33 : decode cX6_step 33 = .ok (.isub, 1) := by decide +kernel
theorem dX6_step_34 : decode cX6_step 34 = .ok (.iload 5, 2) := by decide +kernel
theorem dX6_step_36 : decode cX6_step 36 = .ok (.iadd, 1) := by decide +kernel
theorem dX6_step_37 : decode cX6_step 37 = .ok (.iaload, 1) := by decide +kernel
theorem dX6_step_38 : decode cX6_step 38 = .ok (.istore 6, 2) := by decide +kernel
theorem dX6_step_40 : decode cX6_step 40 = .ok (.aload_n 0, 1) := by decide +kernel
theorem dX6_step_41 : decode cX6_step 41 = .ok (.getfield 35, 3) := by decide +kernel
theorem dX6_step_44 : decode cX6_step 44 = .ok (.iload 6, 2) := by decide +kernel
theorem dX6_step_46 : decode cX6_step 46 = .ok (.iaload, 1) := by decide +kernel
theorem dX6_step_47 : decode cX6_step 47 = .ok (.ifCond .ne 108, 3) := by decide +kernel
theorem dX6_step_50 : decode cX6_step 50 = .ok (.aload_n 0, 1) := by decide +kernel
theorem dX6_step_51 : decode cX6_step 51 = .ok (.iload 6, 2) := by decide +kernel
theorem dX6_step_53 : decode cX6_step 53 = .ok (.iload_n 2, 1) := by decide +kernel
theorem dX6_step_54 : decode cX6_step 54 = .ok (.iload_n 3, 1) := by decide +kernel
theorem dX6_step_55 : decode cX6_step 55 = .ok (.invokevirtual 126, 3) := by decide +kernel
theorem dX6_step_58 : decode cX6_step 58 = .ok (.istore 7, 2) := by decide +kernel
theorem dX6_step_60 : decode cX6_step 60 = .ok (.iload 7, 2) := by decide +kernel
theorem dX6_step_62 : decode cX6_step 62 = .ok (.ifCond .ne 6, 3) := by decide +kernel
theorem dX6_step_65 : decode cX6_step 65 = .ok (.goto 193, 3) := by decide +kernel
theorem dX6_step_68 : decode cX6_step 68 = .ok (.aload_n 0, 1) := by decide +kernel
theorem dX6_step_69 : decode cX6_step 69 = .ok (.dup, 1) := by decide +kernel
theorem dX6_step_70 : decode cX6_step 70 = .ok (.getfield 130, 3) := by decide +kernel
theorem dX6_step_73 : decode cX6_step 73 = .ok (.iconst 1, 1) := by decide +kernel
theorem dX6_step_74 : decode cX6_step 74 = .ok (.iadd, 1) := by decide +kernel
theorem dX6_step_75 : decode cX6_step 75 = .ok (.putfield 130, 3) := by decide +kernel
theorem dX6_step_78 : decode cX6_step 78 = .ok (.iconst 0, 1) := by decide +kernel
theorem dX6_step_79 : decode cX6_step 79 = .ok (.istore 8, 2) := by decide +kernel
theorem dX6_step_81 : decode cX6_step 81 = .ok (.iload 8, 2) := by decide +kernel
theorem dX6_step_83 : decode cX6_step 83 = .ok (.aload_n 0, 1) := by decide +kernel
theorem dX6_step_84 : decode cX6_step 84 = .ok (.getfield 41, 3) := by decide +kernel
theorem dX6_step_87 : decode cX6_step 87 = .ok (.iload 6, 2) := by decide +kernel
theorem dX6_step_89 : decode cX6_step 89 = .ok (.iaload, 1) := by decide +kernel
theorem dX6_step_90 : decode cX6_step 90 = .ok (.if_icmp .ge 62, 3) := by decide +kernel
theorem dX6_step_93 : decode cX6_step 93 = .ok (.aload_n 0, 1) := by decide +kernel
theorem dX6_step_94 : decode cX6_step 94 = .ok (.iload 4, 2) := by decide +kernel
theorem dX6_step_96 : decode cX6_step 96 = .ok (.aload_n 0, 1) := by decide +kernel
theorem dX6_step_97 : decode cX6_step 97 = .ok (.getfield 47, 3) := by decide +kernel
theorem dX6_step_100 : decode cX6_step 100 = .ok (.bipush 10, 2) := by decide +kernel
theorem dX6_step_102 : decode cX6_step 102 = .ok (.iload 6, 2) := by decide +kernel
theorem dX6_step_104 : decode cX6_step 104 = .ok (.imul, 1) := by decide +kernel
theorem dX6_step_105 : decode cX6_step 105 = .ok (.bipush 10, 2) := by decide +kernel
theorem dX6_step_107 : decode cX6_step 107 = .ok (.isub, 1) := by decide +kernel
theorem dX6_step_108 : decode cX6_step 108 = .ok (.iload 8, 2) := by decide +kernel
theorem dX6_step_110 : decode cX6_step 110 = .ok (.iadd, 1) := by decide +kernel
theorem dX6_step_111 : decode cX6_step 111 = .ok (.iaload, 1) := by decide +kernel
theorem dX6_step_112 : decode cX6_step 112 = .ok (.aload_n 0, 1) := by decide +kernel
theorem dX6_step_113 : decode cX6_step 113 = .ok (.getfield 53, 3) := by decide +kernel
theorem dX6_step_116 : decode cX6_step 116 = .ok (.iload_n 2, 1) := by decide +kernel
theorem dX6_step_117 : decode cX6_step 117 = .ok (.iaload, 1) := by decide +kernel
theorem dX6_step_118 : decode cX6_step 118 = .ok (.aload_n 0, 1) := by decide +kernel
theorem dX6_step_119 : decode cX6_step 119 = .ok (.getfield 56, 3) := by decide +kernel
theorem dX6_step_122 : decode cX6_step 122 = .ok (.iload_n 2, 1) := by decide +kernel
theorem dX6_step_123 : decode cX6_step 123 = .ok (.iaload, 1) := by decide +kernel
theorem dX6_step_124 : decode cX6_step 124 = .ok (.iload 6, 2) := by decide +kernel
theorem dX6_step_126 : decode cX6_step 126 = .ok (.aload_n 0, 1) := by decide +kernel
theorem dX6_step_127 : decode cX6_step 127 = .ok (.getfield 62, 3) := by decide +kernel
theorem dX6_step_130 : decode cX6_step 130 = .ok (.iload_n 2, 1) := by decide +kernel
theorem dX6_step_131 : decode cX6_step 131 = .ok (.iaload, 1) := by decide +kernel
theorem dX6_step_132 : decode cX6_step 132 = .ok (.aload_n 0, 1) := by decide +kernel
theorem dX6_step_133 : decode cX6_step 133 = .ok (.getfield 65, 3) := by decide +kernel
theorem dX6_step_136 : decode cX6_step 136 = .ok (.iload_n 2, 1) := by decide +kernel
theorem dX6_step_137 : decode cX6_step 137 = .ok (.iaload, 1) := by decide +kernel
theorem dX6_step_138 : decode cX6_step 138 = .ok (.invokevirtual 115, 3) := by decide +kernel
theorem dX6_step_141 : decode cX6_step 141 = .ok (.ifCond .ne 5, 3) := by decide +kernel
theorem dX6_step_144 : decode cX6_step 144 = .ok (.iconst 0, 1) := by decide +kernel
theorem dX6_step_145 : decode cX6_step 145 = .ok (.ireturn, 1) := by decide +kernel
theorem dX6_step_146 : decode cX6_step 146 = .ok (.iinc 8 1, 3) := by decide +kernel
theorem dX6_step_149 : decode cX6_step 149 = .ok (.goto (-68), 3) := by decide +kernel
theorem dX6_step_152 : decode cX6_step 152 = .ok (.iload 7, 2) := by decide +kernel
theorem dX6_step_154 : decode cX6_step 154 = .ok (.ireturn, 1) := by decide +kernel
theorem dX6_step_155 : decode cX6_step 155 = .ok (.aload_n 0, 1) := by decide +kernel
theorem dX6_step_156 : decode cX6_step 156 = .ok (.iload 6, 2) := by decide +kernel
theorem dX6_step_158 : decode cX6_step 158 = .ok (.aload_n 0, 1) := by decide +kernel
theorem dX6_step_159 : decode cX6_step 159 = .ok (.getfield 50, 3) := by decide +kernel
theorem dX6_step_162 : decode cX6_step 162 = .ok (.iload_n 2, 1) := by decide +kernel
theorem dX6_step_163 : decode cX6_step 163 = .ok (.iaload, 1) := by decide +kernel
theorem dX6_step_164 : decode cX6_step 164 = .ok (.invokevirtual 133, 3) := by decide +kernel
theorem dX6_step_167 : decode cX6_step 167 = .ok (.ifCond .ne 6, 3) := by decide +kernel
theorem dX6_step_170 : decode cX6_step 170 = .ok (.goto 88, 3) := by decide +kernel
theorem dX6_step_173 : decode cX6_step 173 = .ok (.aload_n 0, 1) := by decide +kernel
theorem dX6_step_174 : decode cX6_step 174 = .ok (.dup, 1) := by decide +kernel
theorem dX6_step_175 : decode cX6_step 175 = .ok (.getfield 130, 3) := by decide +kernel
theorem dX6_step_178 : decode cX6_step 178 = .ok (.iconst 1, 1) := by decide +kernel
theorem dX6_step_179 : decode cX6_step 179 = .ok (.iadd, 1) := by decide +kernel
theorem dX6_step_180 : decode cX6_step 180 = .ok (.putfield 130, 3) := by decide +kernel
theorem dX6_step_183 : decode cX6_step 183 = .ok (.aload_n 0, 1) := by decide +kernel
theorem dX6_step_184 : decode cX6_step 184 = .ok (.iload 6, 2) := by decide +kernel
theorem dX6_step_186 : decode cX6_step 186 = .ok (.aload_n 0, 1) := by decide +kernel
theorem dX6_step_187 : decode cX6_step 187 = .ok (.getfield 50, 3) := by decide +kernel
theorem dX6_step_190 : decode cX6_step 190 = .ok (.iload_n 2, 1) := by decide +kernel
theorem dX6_step_191 : decode cX6_step 191 = .ok (.iaload, 1) := by decide +kernel
theorem dX6_step_192 : decode cX6_step 192 = .ok (.invokevirtual 137, 3) := by decide +kernel
theorem dX6_step_195 : decode cX6_step 195 = .ok (.istore 7, 2) := by decide +kernel
theorem dX6_step_197 : decode cX6_step 197 = .ok (.iload 7, 2) := by decide +kernel
theorem dX6_step_199 : decode cX6_step 199 = .ok (.ifCond .ne 9, 3) := by decide +kernel
theorem dX6_step_202 : decode cX6_step 202 = .ok (.aload_n 0, 1) := by decide +kernel
theorem dX6_step_203 : decode cX6_step 203 = .ok (.bipush (-5), 2) := by decide +kernel
theorem dX6_step_205 : decode cX6_step 205 = .ok (.putfield 112, 3) := by decide +kernel
theorem dX6_step_208 : decode cX6_step 208 = .ok (.iload 7, 2) := by decide +kernel
theorem dX6_step_210 : decode cX6_step 210 = .ok (.ifCond .le 46, 3) := by decide +kernel
theorem dX6_step_213 : decode cX6_step 213 = .ok (.aload_n 0, 1) := by decide +kernel
theorem dX6_step_214 : decode cX6_step 214 = .ok (.iload 4, 2) := by decide +kernel
theorem dX6_step_216 : decode cX6_step 216 = .ok (.iload 7, 2) := by decide +kernel
theorem dX6_step_218 : decode cX6_step 218 = .ok (.aload_n 0, 1) := by decide +kernel
theorem dX6_step_219 : decode cX6_step 219 = .ok (.getfield 53, 3) := by decide +kernel
theorem dX6_step_222 : decode cX6_step 222 = .ok (.iload_n 2, 1) := by decide +kernel
theorem dX6_step_223 : decode cX6_step 223 = .ok (.iaload, 1) := by decide +kernel
theorem dX6_step_224 : decode cX6_step 224 = .ok (.aload_n 0, 1) := by decide +kernel
theorem dX6_step_225 : decode cX6_step 225 = .ok (.getfield 56, 3) := by decide +kernel
theorem dX6_step_228 : decode cX6_step 228 = .ok (.iload_n 2, 1) := by decide +kernel
theorem dX6_step_229 : decode cX6_step 229 = .ok (.iaload, 1) := by decide +kernel
theorem dX6_step_230 : decode cX6_step 230 = .ok (.iload 6, 2) := by decide +kernel
theorem dX6_step_232 : decode cX6_step 232 = .ok (.aload_n 0, 1) := by decide +kernel
theorem dX6_step_233 : decode cX6_step 233 = .ok (.getfield 62, 3) := by decide +kernel
theorem dX6_step_236 : decode cX6_step 236 = .ok (.iload_n 2, 1) := by decide +kernel
theorem dX6_step_237 : decode cX6_step 237 = .ok (.iaload, 1) := by decide +kernel
theorem dX6_step_238 : decode cX6_step 238 = .ok (.aload_n 0, 1) := by decide +kernel
theorem dX6_step_239 : decode cX6_step 239 = .ok (.getfield 65, 3) := by decide +kernel
theorem dX6_step_242 : decode cX6_step 242 = .ok (.iload_n 2, 1) := by decide +kernel
theorem dX6_step_243 : decode cX6_step 243 = .ok (.iaload, 1) := by decide +kernel
theorem dX6_step_244 : decode cX6_step 244 = .ok (.invokevirtual 115, 3) := by decide +kernel
theorem dX6_step_247 : decode cX6_step 247 = .ok (.ifCond .eq 9, 3) := by decide +kernel
theorem dX6_step_250 : decode cX6_step 250 = .ok (.iload_n 2, 1) := by decide +kernel
theorem dX6_step_251 : decode cX6_step 251 = .ok (.iconst 1, 1) := by decide +kernel
theorem dX6_step_252 : decode cX6_step 252 = .ok (.iadd, 1) := by decide +kernel
theorem dX6_step_253 : decode cX6_step 253 = .ok (.goto 4, 3) := by decide +kernel
theorem dX6_step_256 : decode cX6_step 256 = .ok (.iconst 0, 1) := by decide +kernel
theorem dX6_step_257 : decode cX6_step 257 = .ok (.ireturn, 1) := by decide +kernel
theorem dX6_step_258 : decode cX6_step 258 = .ok (.iinc 5 1, 3) := by decide +kernel
theorem dX6_step_261 : decode cX6_step 261 = .ok (.goto (-258), 3) := by decide +kernel
theorem dX6_step_264 : decode cX6_step 264 = .ok (.aload_n 0, 1) := by decide +kernel
theorem dX6_step_265 : decode cX6_step 265 = .ok (.iload 4, 2) := by decide +kernel
theorem dX6_step_267 : decode cX6_step 267 = .ok (.iload_n 2, 1) := by decide +kernel
theorem dX6_step_268 : decode cX6_step 268 = .ok (.invokevirtual 140, 3) := by decide +kernel
theorem dX6_step_271 : decode cX6_step 271 = .ok (.ifCond .eq 9, 3) := by decide +kernel
theorem dX6_step_274 : decode cX6_step 274 = .ok (.iload_n 2, 1) := by decide +kernel
theorem dX6_step_275 : decode cX6_step 275 = .ok (.iconst 1, 1) := by decide +kernel
theorem dX6_step_276 : decode cX6_step 276 = .ok (.iadd, 1) := by decide +kernel
theorem dX6_step_277 : decode cX6_step 277 = .ok (.goto 4, 3) := by decide +kernel
theorem dX6_step_280 : decode cX6_step 280 = .ok (.iconst 0, 1) := by decide +kernel
theorem dX6_step_281 : decode cX6_step 281 = .ok (.ireturn, 1) := by decide +kernel
theorem dX6_match_0 : decode cX6_match 0 = .ok (.bipush 14, 2) := by decide +kernel
theorem dX6_match_2 : decode cX6_match 2 = .ok (.istore_n 3, 1) := by decide +kernel
theorem dX6_match_3 : decode cX6_match 3 = .ok (.aload_n 0, 1) := by decide +kernel
theorem dX6_match_4 : decode cX6_match 4 = .ok (.getfield 68, 3) := by decide +kernel
theorem dX6_match_7 : decode cX6_match 7 = .ok (.iload_n 3, 1) := by decide +kernel
theorem dX6_match_8 : decode cX6_match 8 = .ok (.iconst 0, 1) := by decide +kernel
theorem dX6_match_9 : decode cX6_match 9 = .ok (.iastore, 1) := by decide +kernel
theorem dX6_match_10 : decode cX6_match 10 = .ok (.sipush 302, 3) := by decide +kernel
theorem dX6_match_13 : decode cX6_match 13 = .ok (.iload_n 1, 1) := by decide +kernel
theorem dX6_match_14 : decode cX6_match 14 = .ok (.imul, 1) := by decide +kernel
theorem dX6_match_15 : decode cX6_match 15 = .ok (.istore 4, 2) := by decide +kernel
theorem dX6_match_17 : decode cX6_match 17 = .ok (.iload 4, 2) := by decide +kernel
theorem dX6_match_19 : decode cX6_match 19 = .ok (.aload_n 0, 1) := by decide +kernel
theorem dX6_match_20 : decode cX6_match 20 = .ok (.getfield 68, 3) := by decide +kernel
theorem dX6_match_23 : decode cX6_match 23 = .ok (.iload_n 1, 1) := by decide +kernel
theorem dX6_match_24 : decode cX6_match 24 = .ok (.iaload, 1) := by decide +kernel
theorem dX6_match_25 : decode cX6_match 25 = .ok (.iadd, 1) := by decide +kernel
theorem dX6_match_26 : decode cX6_match 26 = .ok (.istore 5, 2) := by decide +kernel
theorem dX6_match_28 : decode cX6_match 28 = .ok (.iload_n 2, 1) := by decide +kernel
theorem dX6_match_29 : decode cX6_match 29 = .ok (.istore 6, 2) := by decide +kernel
theorem dX6_match_31 : decode cX6_match 31 = .ok (.iload 4, 2) := by decide +kernel
theorem dX6_match_33 : decode cX6_match 33 = .ok (.iload 5, 2) := by decide +kernel
theorem dX6_match_35 : decode cX6_match 35 = .ok (.if_icmp .ge 92, 3) := by decide +kernel
theorem dX6_match_38 : decode cX6_match 38 = .ok (.aload_n 0, 1) := by decide +kernel
theorem dX6_match_39 : decode cX6_match 39 = .ok (.getfield 112, 3) := by decide +kernel
theorem dX6_match_42 : decode cX6_match 42 = .ok (.ifCond .ne 85, 3) := by decide +kernel
theorem dX6_match_45 : decode cX6_match 45 = .ok (.iload_n 2, 1) := by decide +kernel
theorem dX6_match_46 : decode cX6_match 46 = .ok (.ifCond .ne 25, 3) := by decide +kernel
theorem dX6_match_49 : decode cX6_match 49 = .ok (.aload_n 0, 1) := by decide +kernel
theorem dX6_match_50 : decode cX6_match 50 = .ok (.getfield 50, 3) := by decide +kernel
theorem dX6_match_53 : decode cX6_match 53 = .ok (.iload 4, 2) := by decide +kernel
theorem dX6_match_55 : decode cX6_match 55 = .ok (.iaload, 1) := by decide +kernel
theorem dX6_match_56 : decode cX6_match 56 = .ok (.sipush (-3000), 3) := by decide +kernel
theorem dX6_match_59 : decode cX6_match 59 = .ok (.if_icmp .gt 12, 3) := by decide +kernel
theorem dX6_match_62 : decode cX6_match 62 = .ok (.iconst 0, 1) := by decide +kernel
theorem dX6_match_63 : decode cX6_match 63 = .ok (.istore 6, 2) := by decide +kernel
theorem dX6_match_65 : decode cX6_match 65 = .ok (.iinc 4 1, 3) := by decide +kernel
theorem dX6_match_68 : decode cX6_match 68 = .ok (.goto (-37), 3) := by decide +kernel
theorem dX6_match_71 : decode cX6_match 71 = .ok (.iload_n 2, 1) := by decide +kernel
theorem dX6_match_72 : decode cX6_match 72 = .ok (.ifCond .ne 35, 3) := by decide +kernel
theorem dX6_match_75 : decode cX6_match 75 = .ok (.aload_n 0, 1) := by decide +kernel
theorem dX6_match_76 : decode cX6_match 76 = .ok (.getfield 50, 3) := by decide +kernel
theorem dX6_match_79 : decode cX6_match 79 = .ok (.iload 4, 2) := by decide +kernel
theorem dX6_match_81 : decode cX6_match 81 = .ok (.iaload, 1) := by decide +kernel
theorem dX6_match_82 : decode cX6_match 82 = .ok (.sipush (-2000), 3) := by decide +kernel
theorem dX6_match_85 : decode cX6_match 85 = .ok (.if_icmp .ge 22, 3) := by decide +kernel
theorem dX6_match_88 : decode cX6_match 88 = .ok (.sipush (-2000), 3) := by decide +kernel
theorem dX6_match_91 : decode cX6_match 91 = .ok (.aload_n 0, 1) := by decide +kernel
theorem dX6_match_92 : decode cX6_match 92 = .ok (.getfield 50, 3) := by decide +kernel
theorem dX6_match_95 : decode cX6_match 95 = .ok (.iload 4, 2) := by decide +kernel
theorem dX6_match_97 : decode cX6_match 97 = .ok (.iaload, 1) := by decide +kernel
theorem dX6_match_98 : decode cX6_match 98 = .ok (.isub, 1) := by decide +kernel
theorem dX6_match_99 : decode cX6_match 99 = .ok (.istore 6, 2) := by decide +kernel
theorem dX6_match_101 : decode cX6_match 101 = .ok (.iinc 4 1, 3) := by decide +kernel
theorem dX6_match_104 : decode cX6_match 104 = .ok (.goto (-73), 3) := by decide +kernel
theorem dX6_match_107 : decode cX6_match 107 = .ok (.aload_n 0, 1) := by decide +kernel
theorem dX6_match_108 : decode cX6_match 108 = .ok (.iload 6, 2) := by decide +kernel
theorem dX6_match_110 : decode cX6_match 110 = .ok (.iload 4, 2) := by decide +kernel
theorem dX6_match_112 : decode cX6_match 112 = .ok (.iload 5, 2) := by decide +kernel
theorem dX6_match_114 : decode cX6_match 114 = .ok (.iload_n 3, 1) := by decide +kernel
theorem dX6_match_115 : decode cX6_match 115 = .ok (.invokevirtual 143, 3) := by decide +kernel
theorem dX6_match_118 : decode cX6_match 118 = .ok (.istore 7, 2) := by decide +kernel
theorem dX6_match_120 : decode cX6_match 120 = .ok (.iload 7, 2) := by decide +kernel
theorem dX6_match_122 : decode cX6_match 122 = .ok (.istore 4, 2) := by decide +kernel
theorem dX6_match_124 : decode cX6_match 124 = .ok (.goto (-93), 3) := by decide +kernel
theorem dX6_match_127 : decode cX6_match 127 = .ok (.aload_n 0, 1) := by decide +kernel
theorem dX6_match_128 : decode cX6_match 128 = .ok (.getfield 112, 3) := by decide +kernel
theorem dX6_match_131 : decode cX6_match 131 = .ok (.ifCond .eq 4, 3) := by decide +kernel
theorem dX6_match_134 : decode cX6_match 134 = .ok (.return_, 1) := by decide +kernel
theorem dX6_match_135 : decode cX6_match 135 = .ok (.aload_n 0, 1) := by decide +kernel
theorem dX6_match_136 : decode cX6_match 136 = .ok (.getfield 68, 3) := by decide +kernel
theorem dX6_match_139 : decode cX6_match 139 = .ok (.iload_n 1, 1) := by decide +kernel
theorem dX6_match_140 : decode cX6_match 140 = .ok (.iconst 0, 1) := by decide +kernel
theorem dX6_match_141 : decode cX6_match 141 = .ok (.iastore, 1) := by decide +kernel
theorem dX6_match_142 : decode cX6_match 142 = .ok (.iconst 0, 1) := by decide +kernel
theorem dX6_match_143 : decode cX6_match 143 = .ok (.istore 7, 2) := by decide +kernel
theorem dX6_match_145 : decode cX6_match 145 = .ok (.iload 7, 2) := by decide +kernel
theorem dX6_match_147 : decode cX6_match 147 = .ok (.aload_n 0, 1) := by decide +kernel
theorem dX6_match_148 : decode cX6_match 148 = .ok (.getfield 68, 3) := by decide +kernel
theorem dX6_match_151 : decode cX6_match 151 = .ok (.iload_n 3, 1) := by decide +kernel
theorem dX6_match_152 : decode cX6_match 152 = .ok (.iaload, 1) := by decide +kernel
theorem dX6_match_153 : decode cX6_match 153 = .ok (.if_icmp .ge 23, 3) := by decide +kernel
theorem dX6_match_156 : decode cX6_match 156 = .ok (.aload_n 0, 1) := by decide +kernel
theorem dX6_match_157 : decode cX6_match 157 = .ok (.iload_n 1, 1) := by decide +kernel
theorem dX6_match_158 : decode cX6_match 158 = .ok (.sipush 302, 3) := by decide +kernel
theorem dX6_match_161 : decode cX6_match 161 = .ok (.iload_n 3, 1) := by decide +kernel
theorem dX6_match_162 : decode cX6_match 162 = .ok (.imul, 1) := by decide +kernel
theorem dX6_match_163 : decode cX6_match 163 = .ok (.iload 7, 2) := by decide +kernel
theorem dX6_match_165 : decode cX6_match 165 = .ok (.iadd, 1) := by decide +kernel
theorem dX6_match_166 : decode cX6_match 166 = .ok (.invokevirtual 140, 3) := by decide +kernel
theorem dX6_match_169 : decode cX6_match 169 = .ok (.pop, 1) := by decide +kernel
theorem dX6_match_170 : decode cX6_match 170 = .ok (.iinc 7 1, 3) := by decide +kernel
theorem dX6_match_173 : decode cX6_match 173 = .ok (.goto (-28), 3) := by decide +kernel
theorem dX6_match_176 : decode cX6_match 176 = .ok (.return_, 1) := by decide +kernel
theorem dX6_textNamed_0 : decode cX6_textNamed 0 = .ok (.iconst 1, 1) := by decide +kernel
theorem dX6_textNamed_1 : decode cX6_textNamed 1 = .ok (.istore_n 2, 1) := by decide +kernel
theorem dX6_textNamed_2 : decode cX6_textNamed 2 = .ok (.iload_n 2, 1) := by decide +kernel
theorem dX6_textNamed_3 : decode cX6_textNamed 3 = .ok (.aload_n 0, 1) := by decide +kernel
theorem dX6_textNamed_4 : decode cX6_textNamed 4 = .ok (.getfield 88, 3) := by decide +kernel
theorem dX6_textNamed_7 : decode cX6_textNamed 7 = .ok (.if_icmp .gt 19, 3) := by decide +kernel
theorem dX6_textNamed_10 : decode cX6_textNamed 10 = .ok (.aload_n 0, 1) := by decide +kernel
theorem dX6_textNamed_11 : decode cX6_textNamed 11 = .ok (.getfield 7, 3) := by decide +kernel
theorem dX6_textNamed_14 : decode cX6_textNamed 14 = .ok (.iload_n 2, 1) := by decide +kernel
theorem dX6_textNamed_15 : decode cX6_textNamed 15 = .ok (.iaload, 1) := by decide +kernel
theorem dX6_textNamed_16 : decode cX6_textNamed 16 = .ok (.iload_n 1, 1) := by decide +kernel
theorem dX6_textNamed_17 : decode cX6_textNamed 17 = .ok (.if_icmp .eq 9, 3) := by decide +kernel
theorem dX6_textNamed_20 : decode cX6_textNamed 20 = .ok (.iinc 2 1, 3) := by decide +kernel
theorem dX6_textNamed_23 : decode cX6_textNamed 23 = .ok (.goto (-21), 3) := by decide +kernel
end
section
theorem dX6_textNamed_26 : decode cX6_textNamed 26 = .ok (.iload_n 2, 1) := by decide +kernel
theorem dX6_textNamed_27 : decode cX6_textNamed 27 = .ok (.aload_n 0, 1) := by decide +kernel
theorem dX6_textNamed_28 : decode cX6_textNamed 28 = .ok (.getfield 88, 3) := by decide +kernel
theorem dX6_textNamed_31 : decode cX6_textNamed 31 = .ok (.if_icmp .le 7, 3) := by decide +kernel
theorem dX6_textNamed_34 : decode cX6_textNamed 34 = .ok (.iconst 0, 1) := by decide +kernel
theorem dX6_textNamed_35 : decode cX6_textNamed 35 = .ok (.goto 4, 3) := by decide +kernel
theorem dX6_textNamed_38 : decode cX6_textNamed 38 = .ok (.iload_n 2, 1) := by decide +kernel
theorem dX6_textNamed_39 : decode cX6_textNamed 39 = .ok (.ireturn, 1) := by decide +kernel
theorem dX6_begin_0 : decode cX6_begin 0 = .ok (.aload_n 0, 1) := by decide +kernel
theorem dX6_begin_1 : decode cX6_begin 1 = .ok (.getfield 71, 3) := by decide +kernel
theorem dX6_begin_4 : decode cX6_begin 4 = .ok (.aload_n 0, 1) := by decide +kernel
theorem dX6_begin_5 : decode cX6_begin 5 = .ok (.getfield 147, 3) := by decide +kernel
theorem dX6_begin_8 : decode cX6_begin 8 = .ok (.iload_n 1, 1) := by decide +kernel
theorem dX6_begin_9 : decode cX6_begin 9 = .ok (.iastore, 1) := by decide +kernel
theorem dX6_begin_10 : decode cX6_begin 10 = .ok (.aload_n 0, 1) := by decide +kernel
theorem dX6_begin_11 : decode cX6_begin 11 = .ok (.getfield 74, 3) := by decide +kernel
theorem dX6_begin_14 : decode cX6_begin 14 = .ok (.aload_n 0, 1) := by decide +kernel
theorem dX6_begin_15 : decode cX6_begin 15 = .ok (.getfield 147, 3) := by decide +kernel
theorem dX6_begin_18 : decode cX6_begin 18 = .ok (.iconst 0, 1) := by decide +kernel
theorem dX6_begin_19 : decode cX6_begin 19 = .ok (.iastore, 1) := by decide +kernel
theorem dX6_begin_20 : decode cX6_begin 20 = .ok (.aload_n 0, 1) := by decide +kernel
theorem dX6_begin_21 : decode cX6_begin 21 = .ok (.getfield 77, 3) := by decide +kernel
theorem dX6_begin_24 : decode cX6_begin 24 = .ok (.aload_n 0, 1) := by decide +kernel
theorem dX6_begin_25 : decode cX6_begin 25 = .ok (.getfield 147, 3) := by decide +kernel
theorem dX6_begin_28 : decode cX6_begin 28 = .ok (.iload_n 2, 1) := by decide +kernel
theorem dX6_begin_29 : decode cX6_begin 29 = .ok (.iastore, 1) := by decide +kernel
theorem dX6_begin_30 : decode cX6_begin 30 = .ok (.aload_n 0, 1) := by decide +kernel
theorem dX6_begin_31 : decode cX6_begin 31 = .ok (.getfield 68, 3) := by decide +kernel
theorem dX6_begin_34 : decode cX6_begin 34 = .ok (.aload_n 0, 1) := by decide +kernel
theorem dX6_begin_35 : decode cX6_begin 35 = .ok (.getfield 147, 3) := by decide +kernel
theorem dX6_begin_38 : decode cX6_begin 38 = .ok (.iconst 0, 1) := by decide +kernel
theorem dX6_begin_39 : decode cX6_begin 39 = .ok (.iastore, 1) := by decide +kernel
theorem dX6_begin_40 : decode cX6_begin 40 = .ok (.aload_n 0, 1) := by decide +kernel
theorem dX6_begin_41 : decode cX6_begin 41 = .ok (.dup, 1) := by decide +kernel
theorem dX6_begin_42 : decode cX6_begin 42 = .ok (.getfield 147, 3) := by decide +kernel
theorem dX6_begin_45 : decode cX6_begin 45 = .ok (.iconst 1, 1) := by decide +kernel
theorem dX6_begin_46 : decode cX6_begin 46 = .ok (.iadd, 1) := by decide +kernel
theorem dX6_begin_47 : decode cX6_begin 47 = .ok (.putfield 147, 3) := by decide +kernel
theorem dX6_begin_50 : decode cX6_begin 50 = .ok (.return_, 1) := by decide +kernel
theorem dX6_copied_0 : decode cX6_copied 0 = .ok (.aload_n 0, 1) := by decide +kernel
theorem dX6_copied_1 : decode cX6_copied 1 = .ok (.getfield 150, 3) := by decide +kernel
theorem dX6_copied_4 : decode cX6_copied 4 = .ok (.bipush 100, 2) := by decide +kernel
theorem dX6_copied_6 : decode cX6_copied 6 = .ok (.if_icmp .ne 10, 3) := by decide +kernel
theorem dX6_copied_9 : decode cX6_copied 9 = .ok (.aload_n 0, 1) := by decide +kernel
theorem dX6_copied_10 : decode cX6_copied 10 = .ok (.bipush (-3), 2) := by decide +kernel
theorem dX6_copied_12 : decode cX6_copied 12 = .ok (.putfield 112, 3) := by decide +kernel
theorem dX6_copied_15 : decode cX6_copied 15 = .ok (.return_, 1) := by decide +kernel
theorem dX6_copied_16 : decode cX6_copied 16 = .ok (.aload_n 0, 1) := by decide +kernel
theorem dX6_copied_17 : decode cX6_copied 17 = .ok (.dup, 1) := by decide +kernel
theorem dX6_copied_18 : decode cX6_copied 18 = .ok (.getfield 150, 3) := by decide +kernel
theorem dX6_copied_21 : decode cX6_copied 21 = .ok (.iconst 1, 1) := by decide +kernel
theorem dX6_copied_22 : decode cX6_copied 22 = .ok (.iadd, 1) := by decide +kernel
theorem dX6_copied_23 : decode cX6_copied 23 = .ok (.putfield 150, 3) := by decide +kernel
theorem dX6_copied_26 : decode cX6_copied 26 = .ok (.aload_n 0, 1) := by decide +kernel
theorem dX6_copied_27 : decode cX6_copied 27 = .ok (.aload_n 0, 1) := by decide +kernel
theorem dX6_copied_28 : decode cX6_copied 28 = .ok (.getfield 19, 3) := by decide +kernel
theorem dX6_copied_31 : decode cX6_copied 31 = .ok (.iload_n 1, 1) := by decide +kernel
theorem dX6_copied_32 : decode cX6_copied 32 = .ok (.iaload, 1) := by decide +kernel
theorem dX6_copied_33 : decode cX6_copied 33 = .ok (.invokevirtual 153, 3) := by decide +kernel
theorem dX6_copied_36 : decode cX6_copied 36 = .ok (.istore_n 2, 1) := by decide +kernel
theorem dX6_copied_37 : decode cX6_copied 37 = .ok (.iload_n 2, 1) := by decide +kernel
theorem dX6_copied_38 : decode cX6_copied 38 = .ok (.ifCond .ne 12, 3) := by decide +kernel
theorem dX6_copied_41 : decode cX6_copied 41 = .ok (.aload_n 0, 1) := by decide +kernel
theorem dX6_copied_42 : decode cX6_copied 42 = .ok (.bipush (-10), 2) := by decide +kernel
theorem dX6_copied_44 : decode cX6_copied 44 = .ok (.iload_n 1, 1) := by decide +kernel
theorem dX6_copied_45 : decode cX6_copied 45 = .ok (.isub, 1) := by decide +kernel
theorem dX6_copied_46 : decode cX6_copied 46 = .ok (.putfield 112, 3) := by decide +kernel
theorem dX6_copied_49 : decode cX6_copied 49 = .ok (.return_, 1) := by decide +kernel
theorem dX6_copied_50 : decode cX6_copied 50 = .ok (.iconst 0, 1) := by decide +kernel
theorem dX6_copied_51 : decode cX6_copied 51 = .ok (.istore_n 3, 1) := by decide +kernel
theorem dX6_copied_52 : decode cX6_copied 52 = .ok (.iload_n 3, 1) := by decide +kernel
theorem dX6_copied_53 : decode cX6_copied 53 = .ok (.aload_n 0, 1) := by decide +kernel
theorem dX6_copied_54 : decode cX6_copied 54 = .ok (.getfield 147, 3) := by decide +kernel
theorem dX6_copied_57 : decode cX6_copied 57 = .ok (.if_icmp .ge 19, 3) := by decide +kernel
theorem dX6_copied_60 : decode cX6_copied 60 = .ok (.aload_n 0, 1) := by decide +kernel
theorem dX6_copied_61 : decode cX6_copied 61 = .ok (.getfield 71, 3) := by decide +kernel
theorem dX6_copied_64 : decode cX6_copied 64 = .ok (.iload_n 3, 1) := by decide +kernel
theorem dX6_copied_65 : decode cX6_copied 65 = .ok (.iaload, 1) := by decide +kernel
theorem dX6_copied_66 : decode cX6_copied 66 = .ok (.iload_n 2, 1) := by decide +kernel
theorem dX6_copied_67 : decode cX6_copied 67 = .ok (.if_icmp .eq 9, 3) := by decide +kernel
theorem dX6_copied_70 : decode cX6_copied 70 = .ok (.iinc 3 1, 3) := by decide +kernel
theorem dX6_copied_73 : decode cX6_copied 73 = .ok (.goto (-21), 3) := by decide +kernel
theorem dX6_copied_76 : decode cX6_copied 76 = .ok (.iload_n 3, 1) := by decide +kernel
theorem dX6_copied_77 : decode cX6_copied 77 = .ok (.aload_n 0, 1) := by decide +kernel
theorem dX6_copied_78 : decode cX6_copied 78 = .ok (.getfield 147, 3) := by decide +kernel
theorem dX6_copied_81 : decode cX6_copied 81 = .ok (.if_icmp .ne 10, 3) := by decide +kernel
theorem dX6_copied_84 : decode cX6_copied 84 = .ok (.aload_n 0, 1) := by decide +kernel
theorem dX6_copied_85 : decode cX6_copied 85 = .ok (.iload_n 2, 1) := by decide +kernel
theorem dX6_copied_86 : decode cX6_copied 86 = .ok (.iload_n 1, 1) := by decide +kernel
theorem dX6_copied_87 : decode cX6_copied 87 = .ok (.invokevirtual 156, 3) := by decide +kernel
theorem dX6_copied_90 : decode cX6_copied 90 = .ok (.return_, 1) := by decide +kernel
theorem dX6_copied_91 : decode cX6_copied 91 = .ok (.aload_n 0, 1) := by decide +kernel
theorem dX6_copied_92 : decode cX6_copied 92 = .ok (.iconst (-1), 1) := by decide +kernel
theorem dX6_copied_93 : decode cX6_copied 93 = .ok (.putfield 112, 3) := by decide +kernel
theorem dX6_copied_96 : decode cX6_copied 96 = .ok (.iload_n 3, 1) := by decide +kernel
theorem dX6_copied_97 : decode cX6_copied 97 = .ok (.istore 4, 2) := by decide +kernel
theorem dX6_copied_99 : decode cX6_copied 99 = .ok (.iload 4, 2) := by decide +kernel
theorem dX6_copied_101 : decode cX6_copied 101 = .ok (.aload_n 0, 1) := by decide +kernel
theorem dX6_copied_102 : decode cX6_copied 102 = .ok (.getfield 147, 3) := by decide +kernel
theorem dX6_copied_105 : decode cX6_copied 105 = .ok (.if_icmp .ge 40, 3) := by decide +kernel
theorem dX6_copied_108 : decode cX6_copied 108 = .ok (.aload_n 0, 1) := by decide +kernel
theorem dX6_copied_109 : decode cX6_copied 109 = .ok (.getfield 80, 3) := by decide +kernel
theorem dX6_copied_112 : decode cX6_copied 112 = .ok (.aload_n 0, 1) := by decide +kernel
theorem dX6_copied_113 : decode cX6_copied 113 = .ok (.getfield 160, 3) := by decide +kernel
theorem dX6_copied_116 : decode cX6_copied 116 = .ok (.aload_n 0, 1) := by decide +kernel
theorem dX6_copied_117 : decode cX6_copied 117 = .ok (.getfield 7, 3) := by decide +kernel
theorem dX6_copied_120 : decode cX6_copied 120 = .ok (.aload_n 0, 1) := by decide +kernel
theorem dX6_copied_121 : decode cX6_copied 121 = .ok (.getfield 71, 3) := by decide +kernel
theorem dX6_copied_124 : decode cX6_copied 124 = .ok (.iload 4, 2) := by decide +kernel
theorem dX6_copied_126 : decode cX6_copied 126 = .ok (.iaload, 1) := by decide +kernel
theorem dX6_copied_127 : decode cX6_copied 127 = .ok (.iaload, 1) := by decide +kernel
theorem dX6_copied_128 : decode cX6_copied 128 = .ok (.iastore, 1) := by decide +kernel
theorem dX6_copied_129 : decode cX6_copied 129 = .ok (.aload_n 0, 1) := by decide +kernel
theorem dX6_copied_130 : decode cX6_copied 130 = .ok (.dup, 1) := by decide +kernel
theorem dX6_copied_131 : decode cX6_copied 131 = .ok (.getfield 160, 3) := by decide +kernel
theorem dX6_copied_134 : decode cX6_copied 134 = .ok (.iconst 1, 1) := by decide +kernel
theorem dX6_copied_135 : decode cX6_copied 135 = .ok (.iadd, 1) := by decide +kernel
theorem dX6_copied_136 : decode cX6_copied 136 = .ok (.putfield 160, 3) := by decide +kernel
theorem dX6_copied_139 : decode cX6_copied 139 = .ok (.iinc 4 1, 3) := by decide +kernel
theorem dX6_copied_142 : decode cX6_copied 142 = .ok (.goto (-43), 3) := by decide +kernel
theorem dX6_copied_145 : decode cX6_copied 145 = .ok (.return_, 1) := by decide +kernel
theorem dX6_end_0 : decode cX6_end 0 = .ok (.aload_n 0, 1) := by decide +kernel
theorem dX6_end_1 : decode cX6_end 1 = .ok (.getfield 147, 3) := by decide +kernel
theorem dX6_end_4 : decode cX6_end 4 = .ok (.iconst 1, 1) := by decide +kernel
theorem dX6_end_5 : decode cX6_end 5 = .ok (.isub, 1) := by decide +kernel
theorem dX6_end_6 : decode cX6_end 6 = .ok (.istore_n 1, 1) := by decide +kernel
theorem dX6_end_7 : decode cX6_end 7 = .ok (.aload_n 0, 1) := by decide +kernel
theorem dX6_end_8 : decode cX6_end 8 = .ok (.getfield 77, 3) := by decide +kernel
theorem dX6_end_11 : decode cX6_end 11 = .ok (.iload_n 1, 1) := by decide +kernel
theorem dX6_end_12 : decode cX6_end 12 = .ok (.iaload, 1) := by decide +kernel
theorem dX6_end_13 : decode cX6_end 13 = .ok (.istore_n 2, 1) := by decide +kernel
theorem dX6_end_14 : decode cX6_end 14 = .ok (.aload_n 0, 1) := by decide +kernel
theorem dX6_end_15 : decode cX6_end 15 = .ok (.iload_n 1, 1) := by decide +kernel
theorem dX6_end_16 : decode cX6_end 16 = .ok (.iload_n 2, 1) := by decide +kernel
theorem dX6_end_17 : decode cX6_end 17 = .ok (.invokevirtual 163, 3) := by decide +kernel
theorem dX6_end_20 : decode cX6_end 20 = .ok (.aload_n 0, 1) := by decide +kernel
theorem dX6_end_21 : decode cX6_end 21 = .ok (.getfield 147, 3) := by decide +kernel
theorem dX6_end_24 : decode cX6_end 24 = .ok (.iconst 1, 1) := by decide +kernel
theorem dX6_end_25 : decode cX6_end 25 = .ok (.if_icmp .ne 4, 3) := by decide +kernel
theorem dX6_end_28 : decode cX6_end 28 = .ok (.return_, 1) := by decide +kernel
theorem dX6_end_29 : decode cX6_end 29 = .ok (.iconst 0, 1) := by decide +kernel
theorem dX6_end_30 : decode cX6_end 30 = .ok (.istore_n 3, 1) := by decide +kernel
theorem dX6_end_31 : decode cX6_end 31 = .ok (.iload_n 3, 1) := by decide +kernel
theorem dX6_end_32 : decode cX6_end 32 = .ok (.aload_n 0, 1) := by decide +kernel
theorem dX6_end_33 : decode cX6_end 33 = .ok (.getfield 68, 3) := by decide +kernel
theorem dX6_end_36 : decode cX6_end 36 = .ok (.iload_n 1, 1) := by decide +kernel
theorem dX6_end_37 : decode cX6_end 37 = .ok (.iaload, 1) := by decide +kernel
theorem dX6_end_38 : decode cX6_end 38 = .ok (.if_icmp .ge 90, 3) := by decide +kernel
theorem dX6_end_41 : decode cX6_end 41 = .ok (.aload_n 0, 1) := by decide +kernel
theorem dX6_end_42 : decode cX6_end 42 = .ok (.getfield 112, 3) := by decide +kernel
theorem dX6_end_45 : decode cX6_end 45 = .ok (.ifCond .ne 83, 3) := by decide +kernel
theorem dX6_end_48 : decode cX6_end 48 = .ok (.sipush 302, 3) := by decide +kernel
theorem dX6_end_51 : decode cX6_end 51 = .ok (.iload_n 1, 1) := by decide +kernel
theorem dX6_end_52 : decode cX6_end 52 = .ok (.imul, 1) := by decide +kernel
theorem dX6_end_53 : decode cX6_end 53 = .ok (.iload_n 3, 1) := by decide +kernel
theorem dX6_end_54 : decode cX6_end 54 = .ok (.iadd, 1) := by decide +kernel
theorem dX6_end_55 : decode cX6_end 55 = .ok (.istore 4, 2) := by decide +kernel
theorem dX6_end_57 : decode cX6_end 57 = .ok (.aload_n 0, 1) := by decide +kernel
theorem dX6_end_58 : decode cX6_end 58 = .ok (.iload_n 1, 1) := by decide +kernel
theorem dX6_end_59 : decode cX6_end 59 = .ok (.iconst 1, 1) := by decide +kernel
theorem dX6_end_60 : decode cX6_end 60 = .ok (.isub, 1) := by decide +kernel
theorem dX6_end_61 : decode cX6_end 61 = .ok (.aload_n 0, 1) := by decide +kernel
theorem dX6_end_62 : decode cX6_end 62 = .ok (.getfield 50, 3) := by decide +kernel
theorem dX6_end_65 : decode cX6_end 65 = .ok (.iload 4, 2) := by decide +kernel
theorem dX6_end_67 : decode cX6_end 67 = .ok (.iaload, 1) := by decide +kernel
theorem dX6_end_68 : decode cX6_end 68 = .ok (.aload_n 0, 1) := by decide +kernel
theorem dX6_end_69 : decode cX6_end 69 = .ok (.getfield 53, 3) := by decide +kernel
theorem dX6_end_72 : decode cX6_end 72 = .ok (.iload 4, 2) := by decide +kernel
theorem dX6_end_74 : decode cX6_end 74 = .ok (.iaload, 1) := by decide +kernel
theorem dX6_end_75 : decode cX6_end 75 = .ok (.aload_n 0, 1) := by decide +kernel
theorem dX6_end_76 : decode cX6_end 76 = .ok (.getfield 56, 3) := by decide +kernel
theorem dX6_end_79 : decode cX6_end 79 = .ok (.iload 4, 2) := by decide +kernel
theorem dX6_end_81 : decode cX6_end 81 = .ok (.iaload, 1) := by decide +kernel
theorem dX6_end_82 : decode cX6_end 82 = .ok (.aload_n 0, 1) := by decide +kernel
theorem dX6_end_83 : decode cX6_end 83 = .ok (.getfield 59, 3) := by decide +kernel
theorem dX6_end_86 : decode cX6_end 86 = .ok (.iload 4, 2) := by decide +kernel
theorem dX6_end_88 : decode cX6_end 88 = .ok (.iaload, 1) := by decide +kernel
theorem dX6_end_89 : decode cX6_end 89 = .ok (.aload_n 0, 1) := by decide +kernel
theorem dX6_end_90 : decode cX6_end 90 = .ok (.getfield 32, 3) := by decide +kernel
theorem dX6_end_93 : decode cX6_end 93 = .ok (.iload_n 2, 1) := by decide +kernel
theorem dX6_end_94 : decode cX6_end 94 = .ok (.baload, 1) := by decide +kernel
theorem dX6_end_95 : decode cX6_end 95 = .ok (.ifCond .eq 7, 3) := by decide +kernel
theorem dX6_end_98 : decode cX6_end 98 = .ok (.iconst 1, 1) := by decide +kernel
theorem dX6_end_99 : decode cX6_end 99 = .ok (.goto 10, 3) := by decide +kernel
theorem dX6_end_102 : decode cX6_end 102 = .ok (.aload_n 0, 1) := by decide +kernel
theorem dX6_end_103 : decode cX6_end 103 = .ok (.getfield 62, 3) := by decide +kernel
theorem dX6_end_106 : decode cX6_end 106 = .ok (.iload 4, 2) := by decide +kernel
theorem dX6_end_108 : decode cX6_end 108 = .ok (.iaload, 1) := by decide +kernel
theorem dX6_end_109 : decode cX6_end 109 = .ok (.aload_n 0, 1) := by decide +kernel
theorem dX6_end_110 : decode cX6_end 110 = .ok (.getfield 65, 3) := by decide +kernel
theorem dX6_end_113 : decode cX6_end 113 = .ok (.iload 4, 2) := by decide +kernel
theorem dX6_end_115 : decode cX6_end 115 = .ok (.iaload, 1) := by decide +kernel
theorem dX6_end_116 : decode cX6_end 116 = .ok (.iconst 1, 1) := by decide +kernel
theorem dX6_end_117 : decode cX6_end 117 = .ok (.iadd, 1) := by decide +kernel
theorem dX6_end_118 : decode cX6_end 118 = .ok (.invokevirtual 115, 3) := by decide +kernel
theorem dX6_end_121 : decode cX6_end 121 = .ok (.pop, 1) := by decide +kernel
theorem dX6_end_122 : decode cX6_end 122 = .ok (.iinc 3 1, 3) := by decide +kernel
theorem dX6_end_125 : decode cX6_end 125 = .ok (.goto (-94), 3) := by decide +kernel
theorem dX6_end_128 : decode cX6_end 128 = .ok (.aload_n 0, 1) := by decide +kernel
theorem dX6_end_129 : decode cX6_end 129 = .ok (.dup, 1) := by decide +kernel
theorem dX6_end_130 : decode cX6_end 130 = .ok (.getfield 147, 3) := by decide +kernel
theorem dX6_end_133 : decode cX6_end 133 = .ok (.iconst 1, 1) := by decide +kernel
theorem dX6_end_134 : decode cX6_end 134 = .ok (.isub, 1) := by decide +kernel
theorem dX6_end_135 : decode cX6_end 135 = .ok (.putfield 147, 3) := by decide +kernel
theorem dX6_end_138 : decode cX6_end 138 = .ok (.return_, 1) := by decide +kernel
theorem dX6_run_0 : decode cX6_run 0 = .ok (.aload_n 0, 1) := by decide +kernel
theorem dX6_run_1 : decode cX6_run 1 = .ok (.iconst 0, 1) := by decide +kernel
theorem dX6_run_2 : decode cX6_run 2 = .ok (.putfield 83, 3) := by decide +kernel
theorem dX6_run_5 : decode cX6_run 5 = .ok (.aload_n 0, 1) := by decide +kernel
theorem dX6_run_6 : decode cX6_run 6 = .ok (.iconst 0, 1) := by decide +kernel
theorem dX6_run_7 : decode cX6_run 7 = .ok (.putfield 147, 3) := by decide +kernel
theorem dX6_run_10 : decode cX6_run 10 = .ok (.aload_n 0, 1) := by decide +kernel
theorem dX6_run_11 : decode cX6_run 11 = .ok (.iconst 0, 1) := by decide +kernel
theorem dX6_run_12 : decode cX6_run 12 = .ok (.putfield 112, 3) := by decide +kernel
theorem dX6_run_15 : decode cX6_run 15 = .ok (.aload_n 0, 1) := by decide +kernel
theorem dX6_run_16 : decode cX6_run 16 = .ok (.iconst 0, 1) := by decide +kernel
theorem dX6_run_17 : decode cX6_run 17 = .ok (.putfield 150, 3) := by decide +kernel
theorem dX6_run_20 : decode cX6_run 20 = .ok (.aload_n 0, 1) := by decide +kernel
theorem dX6_run_21 : decode cX6_run 21 = .ok (.iconst 0, 1) := by decide +kernel
theorem dX6_run_22 : decode cX6_run 22 = .ok (.putfield 130, 3) := by decide +kernel
theorem dX6_run_25 : decode cX6_run 25 = .ok (.aload_n 0, 1) := by decide +kernel
theorem dX6_run_26 : decode cX6_run 26 = .ok (.iconst 0, 1) := by decide +kernel
theorem dX6_run_27 : decode cX6_run 27 = .ok (.putfield 160, 3) := by decide +kernel
theorem dX6_run_30 : decode cX6_run 30 = .ok (.aload_n 0, 1) := by decide +kernel
theorem dX6_run_31 : decode cX6_run 31 = .ok (.iconst 0, 1) := by decide +kernel
theorem dX6_run_32 : decode cX6_run 32 = .ok (.putfield 166, 3) := by decide +kernel
theorem dX6_run_35 : decode cX6_run 35 = .ok (.aload_n 0, 1) := by decide +kernel
theorem dX6_run_36 : decode cX6_run 36 = .ok (.iconst 0, 1) := by decide +kernel
theorem dX6_run_37 : decode cX6_run 37 = .ok (.iconst 0, 1) := by decide +kernel
theorem dX6_run_38 : decode cX6_run 38 = .ok (.invokevirtual 156, 3) := by decide +kernel
theorem dX6_run_41 : decode cX6_run 41 = .ok (.iconst 0, 1) := by decide +kernel
theorem dX6_run_42 : decode cX6_run 42 = .ok (.istore_n 1, 1) := by decide +kernel
theorem dX6_run_43 : decode cX6_run 43 = .ok (.iload_n 1, 1) := by decide +kernel
theorem dX6_run_44 : decode cX6_run 44 = .ok (.ifCond .ne 135, 3) := by decide +kernel
theorem dX6_run_47 : decode cX6_run 47 = .ok (.aload_n 0, 1) := by decide +kernel
theorem dX6_run_48 : decode cX6_run 48 = .ok (.getfield 112, 3) := by decide +kernel
theorem dX6_run_51 : decode cX6_run 51 = .ok (.ifCond .ne 128, 3) := by decide +kernel
theorem dX6_run_54 : decode cX6_run 54 = .ok (.aload_n 0, 1) := by decide +kernel
theorem dX6_run_55 : decode cX6_run 55 = .ok (.getfield 147, 3) := by decide +kernel
theorem dX6_run_58 : decode cX6_run 58 = .ok (.iconst 1, 1) := by decide +kernel
theorem dX6_run_59 : decode cX6_run 59 = .ok (.isub, 1) := by decide +kernel
theorem dX6_run_60 : decode cX6_run 60 = .ok (.istore_n 2, 1) := by decide +kernel
theorem dX6_run_61 : decode cX6_run 61 = .ok (.aload_n 0, 1) := by decide +kernel
theorem dX6_run_62 : decode cX6_run 62 = .ok (.getfield 71, 3) := by decide +kernel
theorem dX6_run_65 : decode cX6_run 65 = .ok (.iload_n 2, 1) := by decide +kernel
theorem dX6_run_66 : decode cX6_run 66 = .ok (.iaload, 1) := by decide +kernel
theorem dX6_run_67 : decode cX6_run 67 = .ok (.istore_n 3, 1) := by decide +kernel
theorem dX6_run_68 : decode cX6_run 68 = .ok (.aload_n 0, 1) := by decide +kernel
theorem dX6_run_69 : decode cX6_run 69 = .ok (.getfield 74, 3) := by decide +kernel
theorem dX6_run_72 : decode cX6_run 72 = .ok (.iload_n 2, 1) := by decide +kernel
theorem dX6_run_73 : decode cX6_run 73 = .ok (.iaload, 1) := by decide +kernel
theorem dX6_run_74 : decode cX6_run 74 = .ok (.istore 4, 2) := by decide +kernel
theorem dX6_run_76 : decode cX6_run 76 = .ok (.iload 4, 2) := by decide +kernel
theorem dX6_run_78 : decode cX6_run 78 = .ok (.aload_n 0, 1) := by decide +kernel
theorem dX6_run_79 : decode cX6_run 79 = .ok (.getfield 13, 3) := by decide +kernel
theorem dX6_run_82 : decode cX6_run 82 = .ok (.iload_n 3, 1) := by decide +kernel
theorem dX6_run_83 : decode cX6_run 83 = .ok (.iaload, 1) := by decide +kernel
theorem dX6_run_84 : decode cX6_run 84 = .ok (.if_icmp .ne 24, 3) := by decide +kernel
theorem dX6_run_87 : decode cX6_run 87 = .ok (.aload_n 0, 1) := by decide +kernel
theorem dX6_run_88 : decode cX6_run 88 = .ok (.getfield 147, 3) := by decide +kernel
theorem dX6_run_91 : decode cX6_run 91 = .ok (.iconst 1, 1) := by decide +kernel
theorem dX6_run_92 : decode cX6_run 92 = .ok (.if_icmp .ne 7, 3) := by decide +kernel
theorem dX6_run_95 : decode cX6_run 95 = .ok (.iconst 1, 1) := by decide +kernel
theorem dX6_run_96 : decode cX6_run 96 = .ok (.goto 4, 3) := by decide +kernel
theorem dX6_run_99 : decode cX6_run 99 = .ok (.iconst 0, 1) := by decide +kernel
theorem dX6_run_100 : decode cX6_run 100 = .ok (.istore_n 1, 1) := by decide +kernel
theorem dX6_run_101 : decode cX6_run 101 = .ok (.aload_n 0, 1) := by decide +kernel
theorem dX6_run_102 : decode cX6_run 102 = .ok (.invokevirtual 169, 3) := by decide +kernel
theorem dX6_run_105 : decode cX6_run 105 = .ok (.goto (-62), 3) := by decide +kernel
theorem dX6_run_108 : decode cX6_run 108 = .ok (.aload_n 0, 1) := by decide +kernel
theorem dX6_run_109 : decode cX6_run 109 = .ok (.getfield 74, 3) := by decide +kernel
theorem dX6_run_112 : decode cX6_run 112 = .ok (.iload_n 2, 1) := by decide +kernel
theorem dX6_run_113 : decode cX6_run 113 = .ok (.dup2, 1) := by decide +kernel
theorem dX6_run_114 : decode cX6_run 114 = .ok (.iaload, 1) := by decide +kernel
theorem dX6_run_115 : decode cX6_run 115 = .ok (.iconst 1, 1) := by decide +kernel
theorem dX6_run_116 : decode cX6_run 116 = .ok (.iadd, 1) := by decide +kernel
theorem dX6_run_117 : decode cX6_run 117 = .ok (.iastore, 1) := by decide +kernel
theorem dX6_run_118 : decode cX6_run 118 = .ok (.aload_n 0, 1) := by decide +kernel
theorem dX6_run_119 : decode cX6_run 119 = .ok (.getfield 16, 3) := by decide +kernel
theorem dX6_run_122 : decode cX6_run 122 = .ok (.sipush 200, 3) := by decide +kernel
theorem dX6_run_125 : decode cX6_run 125 = .ok (.iload_n 3, 1) := by decide +kernel
theorem dX6_run_126 : decode cX6_run 126 = .ok (.imul, 1) := by decide +kernel
theorem dX6_run_127 : decode cX6_run 127 = .ok (.iload 4, 2) := by decide +kernel
theorem dX6_run_129 : decode cX6_run 129 = .ok (.iadd, 1) := by decide +kernel
theorem dX6_run_130 : decode cX6_run 130 = .ok (.iaload, 1) := by decide +kernel
theorem dX6_run_131 : decode cX6_run 131 = .ok (.istore 5, 2) := by decide +kernel
theorem dX6_run_133 : decode cX6_run 133 = .ok (.iload 5, 2) := by decide +kernel
theorem dX6_run_135 : decode cX6_run 135 = .ok (.sipush (-1000), 3) := by decide +kernel
theorem dX6_run_138 : decode cX6_run 138 = .ok (.if_icmp .ge 24, 3) := by decide +kernel
theorem dX6_run_141 : decode cX6_run 141 = .ok (.iload 5, 2) := by decide +kernel
theorem dX6_run_143 : decode cX6_run 143 = .ok (.sipush (-1060), 3) := by decide +kernel
theorem dX6_run_146 : decode cX6_run 146 = .ok (.if_icmp .lt 16, 3) := by decide +kernel
theorem dX6_run_149 : decode cX6_run 149 = .ok (.aload_n 0, 1) := by decide +kernel
theorem dX6_run_150 : decode cX6_run 150 = .ok (.sipush (-1000), 3) := by decide +kernel
theorem dX6_run_153 : decode cX6_run 153 = .ok (.iload 5, 2) := by decide +kernel
theorem dX6_run_155 : decode cX6_run 155 = .ok (.isub, 1) := by decide +kernel
theorem dX6_run_156 : decode cX6_run 156 = .ok (.invokevirtual 172, 3) := by decide +kernel
theorem dX6_run_159 : decode cX6_run 159 = .ok (.goto 17, 3) := by decide +kernel
theorem dX6_run_162 : decode cX6_run 162 = .ok (.aload_n 0, 1) := by decide +kernel
theorem dX6_run_163 : decode cX6_run 163 = .ok (.iload_n 2, 1) := by decide +kernel
theorem dX6_run_164 : decode cX6_run 164 = .ok (.iload 5, 2) := by decide +kernel
theorem dX6_run_166 : decode cX6_run 166 = .ok (.iload_n 3, 1) := by decide +kernel
theorem dX6_run_167 : decode cX6_run 167 = .ok (.iload 4, 2) := by decide +kernel
theorem dX6_run_169 : decode cX6_run 169 = .ok (.iconst 0, 1) := by decide +kernel
theorem dX6_run_170 : decode cX6_run 170 = .ok (.iconst 0, 1) := by decide +kernel
theorem dX6_run_171 : decode cX6_run 171 = .ok (.iconst 0, 1) := by decide +kernel
theorem dX6_run_172 : decode cX6_run 172 = .ok (.invokevirtual 115, 3) := by decide +kernel
theorem dX6_run_175 : decode cX6_run 175 = .ok (.pop, 1) := by decide +kernel
theorem dX6_run_176 : decode cX6_run 176 = .ok (.goto (-133), 3) := by decide +kernel
theorem dX6_run_179 : decode cX6_run 179 = .ok (.aload_n 0, 1) := by decide +kernel
theorem dX6_run_180 : decode cX6_run 180 = .ok (.getfield 112, 3) := by decide +kernel
theorem dX6_run_183 : decode cX6_run 183 = .ok (.ifCond .eq 8, 3) := by decide +kernel
theorem dX6_run_186 : decode cX6_run 186 = .ok (.aload_n 0, 1) := by decide +kernel
theorem dX6_run_187 : decode cX6_run 187 = .ok (.getfield 112, 3) := by decide +kernel
theorem dX6_run_190 : decode cX6_run 190 = .ok (.ireturn, 1) := by decide +kernel
theorem dX6_run_191 : decode cX6_run 191 = .ok (.aload_n 0, 1) := by decide +kernel
theorem dX6_run_192 : decode cX6_run 192 = .ok (.aload_n 0, 1) := by decide +kernel
theorem dX6_run_193 : decode cX6_run 193 = .ok (.getfield 68, 3) := by decide +kernel
theorem dX6_run_196 : decode cX6_run 196 = .ok (.iconst 0, 1) := by decide +kernel
theorem dX6_run_197 : decode cX6_run 197 = .ok (.iaload, 1) := by decide +kernel
theorem dX6_run_198 : decode cX6_run 198 = .ok (.putfield 166, 3) := by decide +kernel
theorem dX6_run_201 : decode cX6_run 201 = .ok (.aload_n 0, 1) := by decide +kernel
theorem dX6_run_202 : decode cX6_run 202 = .ok (.getfield 166, 3) := by decide +kernel
theorem dX6_run_205 : decode cX6_run 205 = .ok (.ireturn, 1) := by decide +kernel
theorem dX6_at_0 : decode cX6_at 0 = .ok (.aload_n 0, 1) := by decide +kernel
theorem dX6_at_1 : decode cX6_at 1 = .ok (.iload_n 1, 1) := by decide +kernel
theorem dX6_at_2 : decode cX6_at 2 = .ok (.ifCond .lt 15, 3) := by decide +kernel
theorem dX6_at_5 : decode cX6_at 5 = .ok (.iload_n 1, 1) := by decide +kernel
theorem dX6_at_6 : decode cX6_at 6 = .ok (.aload_n 0, 1) := by decide +kernel
theorem dX6_at_7 : decode cX6_at 7 = .ok (.getfield 166, 3) := by decide +kernel
theorem dX6_at_10 : decode cX6_at 10 = .ok (.if_icmp .ge 7, 3) := by decide +kernel
theorem dX6_at_13 : decode cX6_at 13 = .ok (.iconst 0, 1) := by decide +kernel
theorem dX6_at_14 : decode cX6_at 14 = .ok (.goto 4, 3) := by decide +kernel
theorem dX6_at_17 : decode cX6_at 17 = .ok (.iconst 1, 1) := by decide +kernel
theorem dX6_at_18 : decode cX6_at 18 = .ok (.putfield 83, 3) := by decide +kernel
theorem dX6_at_21 : decode cX6_at 21 = .ok (.aload_n 0, 1) := by decide +kernel
theorem dX6_at_22 : decode cX6_at 22 = .ok (.getfield 83, 3) := by decide +kernel
theorem dX6_at_25 : decode cX6_at 25 = .ok (.ifCond .ne 12, 3) := by decide +kernel
theorem dX6_at_28 : decode cX6_at 28 = .ok (.aload_n 0, 1) := by decide +kernel
theorem dX6_at_29 : decode cX6_at 29 = .ok (.getfield 50, 3) := by decide +kernel
theorem dX6_at_32 : decode cX6_at 32 = .ok (.iload_n 1, 1) := by decide +kernel
theorem dX6_at_33 : decode cX6_at 33 = .ok (.iaload, 1) := by decide +kernel
theorem dX6_at_34 : decode cX6_at 34 = .ok (.goto 4, 3) := by decide +kernel
theorem dX6_at_37 : decode cX6_at 37 = .ok (.iconst 0, 1) := by decide +kernel
theorem dX6_at_38 : decode cX6_at 38 = .ok (.ireturn, 1) := by decide +kernel
theorem dX6_place_0 : decode cX6_place 0 = .ok (.aload_n 0, 1) := by decide +kernel
theorem dX6_place_1 : decode cX6_place 1 = .ok (.iconst 0, 1) := by decide +kernel
theorem dX6_place_2 : decode cX6_place 2 = .ok (.putfield 83, 3) := by decide +kernel
theorem dX6_place_5 : decode cX6_place 5 = .ok (.iload_n 1, 1) := by decide +kernel
theorem dX6_place_6 : decode cX6_place 6 = .ok (.ifCond .lt 11, 3) := by decide +kernel
theorem dX6_place_9 : decode cX6_place 9 = .ok (.iload_n 1, 1) := by decide +kernel
theorem dX6_place_10 : decode cX6_place 10 = .ok (.aload_n 0, 1) := by decide +kernel
theorem dX6_place_11 : decode cX6_place 11 = .ok (.getfield 166, 3) := by decide +kernel
theorem dX6_place_14 : decode cX6_place 14 = .ok (.if_icmp .lt 5, 3) := by decide +kernel
theorem dX6_place_17 : decode cX6_place 17 = .ok (.iconst (-1), 1) := by decide +kernel
theorem dX6_place_18 : decode cX6_place 18 = .ok (.ireturn, 1) := by decide +kernel
theorem dX6_place_19 : decode cX6_place 19 = .ok (.iload_n 2, 1) := by decide +kernel
theorem dX6_place_20 : decode cX6_place 20 = .ok (.tableswitch 71 0 4 #[36, 43, 50, 57, 64], 36) := by decide +kernel
theorem dX6_place_56 : decode cX6_place 56 = .ok (.aload_n 0, 1) := by decide +kernel
theorem dX6_place_57 : decode cX6_place 57 = .ok (.getfield 53, 3) := by decide +kernel
theorem dX6_place_60 : decode cX6_place 60 = .ok (.iload_n 1, 1) := by decide +kernel
theorem dX6_place_61 : decode cX6_place 61 = .ok (.iaload, 1) := by decide +kernel
theorem dX6_place_62 : decode cX6_place 62 = .ok (.ireturn, 1) := by decide +kernel
theorem dX6_place_63 : decode cX6_place 63 = .ok (.aload_n 0, 1) := by decide +kernel
theorem dX6_place_64 : decode cX6_place 64 = .ok (.getfield 56, 3) := by decide +kernel
theorem dX6_place_67 : decode cX6_place 67 = .ok (.iload_n 1, 1) := by decide +kernel
theorem dX6_place_68 : decode cX6_place 68 = .ok (.iaload, 1) := by decide +kernel
theorem dX6_place_69 : decode cX6_place 69 = .ok (.ireturn, 1) := by decide +kernel
theorem dX6_place_70 : decode cX6_place 70 = .ok (.aload_n 0, 1) := by decide +kernel
theorem dX6_place_71 : decode cX6_place 71 = .ok (.getfield 59, 3) := by decide +kernel
theorem dX6_place_74 : decode cX6_place 74 = .ok (.iload_n 1, 1) := by decide +kernel
theorem dX6_place_75 : decode cX6_place 75 = .ok (.iaload, 1) := by decide +kernel
theorem dX6_place_76 : decode cX6_place 76 = .ok (.ireturn, 1) := by decide +kernel
theorem dX6_place_77 : decode cX6_place 77 = .ok (.aload_n 0, 1) := by decide +kernel
theorem dX6_place_78 : decode cX6_place 78 = .ok (.getfield 62, 3) := by decide +kernel
theorem dX6_place_81 : decode cX6_place 81 = .ok (.iload_n 1, 1) := by decide +kernel
theorem dX6_place_82 : decode cX6_place 82 = .ok (.iaload, 1) := by decide +kernel
theorem dX6_place_83 : decode cX6_place 83 = .ok (.ireturn, 1) := by decide +kernel
theorem dX6_place_84 : decode cX6_place 84 = .ok (.aload_n 0, 1) := by decide +kernel
theorem dX6_place_85 : decode cX6_place 85 = .ok (.getfield 65, 3) := by decide +kernel
theorem dX6_place_88 : decode cX6_place 88 = .ok (.iload_n 1, 1) := by decide +kernel
theorem dX6_place_89 : decode cX6_place 89 = .ok (.iaload, 1) := by decide +kernel
theorem dX6_place_90 : decode cX6_place 90 = .ok (.ireturn, 1) := by decide +kernel
theorem dX6_place_91 : decode cX6_place 91 = .ok (.iconst (-1), 1) := by decide +kernel
theorem dX6_place_92 : decode cX6_place 92 = .ok (.ireturn, 1) := by decide +kernel
theorem dX6_ring_0 : decode cX6_ring 0 = .ok (.aload_n 0, 1) := by decide +kernel
theorem dX6_ring_1 : decode cX6_ring 1 = .ok (.iconst 0, 1) := by decide +kernel
theorem dX6_ring_2 : decode cX6_ring 2 = .ok (.putfield 83, 3) := by decide +kernel
theorem dX6_ring_5 : decode cX6_ring 5 = .ok (.iload_n 1, 1) := by decide +kernel
theorem dX6_ring_6 : decode cX6_ring 6 = .ok (.ifCond .lt 20, 3) := by decide +kernel
theorem dX6_ring_9 : decode cX6_ring 9 = .ok (.iload_n 1, 1) := by decide +kernel
theorem dX6_ring_10 : decode cX6_ring 10 = .ok (.aload_n 0, 1) := by decide +kernel
theorem dX6_ring_11 : decode cX6_ring 11 = .ok (.getfield 160, 3) := by decide +kernel
theorem dX6_ring_14 : decode cX6_ring 14 = .ok (.if_icmp .ge 12, 3) := by decide +kernel
theorem dX6_ring_17 : decode cX6_ring 17 = .ok (.aload_n 0, 1) := by decide +kernel
theorem dX6_ring_18 : decode cX6_ring 18 = .ok (.getfield 80, 3) := by decide +kernel
theorem dX6_ring_21 : decode cX6_ring 21 = .ok (.iload_n 1, 1) := by decide +kernel
theorem dX6_ring_22 : decode cX6_ring 22 = .ok (.iaload, 1) := by decide +kernel
theorem dX6_ring_23 : decode cX6_ring 23 = .ok (.goto 4, 3) := by decide +kernel
theorem dX6_ring_26 : decode cX6_ring 26 = .ok (.iconst (-1), 1) := by decide +kernel
theorem dX6_ring_27 : decode cX6_ring 27 = .ok (.ireturn, 1) := by decide +kernel
theorem dX6_count_0 : decode cX6_count 0 = .ok (.aload_n 0, 1) := by decide +kernel
theorem dX6_count_1 : decode cX6_count 1 = .ok (.iconst 0, 1) := by decide +kernel
theorem dX6_count_2 : decode cX6_count 2 = .ok (.putfield 83, 3) := by decide +kernel
theorem dX6_count_5 : decode cX6_count 5 = .ok (.iload_n 1, 1) := by decide +kernel
theorem dX6_count_6 : decode cX6_count 6 = .ok (.tableswitch 59 0 4 #[34, 39, 44, 49, 54], 34) := by decide +kernel
theorem dX6_count_40 : decode cX6_count 40 = .ok (.aload_n 0, 1) := by decide +kernel
theorem dX6_count_41 : decode cX6_count 41 = .ok (.getfield 88, 3) := by decide +kernel
theorem dX6_count_44 : decode cX6_count 44 = .ok (.ireturn, 1) := by decide +kernel
theorem dX6_count_45 : decode cX6_count 45 = .ok (.aload_n 0, 1) := by decide +kernel
theorem dX6_count_46 : decode cX6_count 46 = .ok (.getfield 102, 3) := by decide +kernel
theorem dX6_count_49 : decode cX6_count 49 = .ok (.ireturn, 1) := by decide +kernel
theorem dX6_count_50 : decode cX6_count 50 = .ok (.aload_n 0, 1) := by decide +kernel
theorem dX6_count_51 : decode cX6_count 51 = .ok (.getfield 109, 3) := by decide +kernel
theorem dX6_count_54 : decode cX6_count 54 = .ok (.ireturn, 1) := by decide +kernel
theorem dX6_count_55 : decode cX6_count 55 = .ok (.aload_n 0, 1) := by decide +kernel
theorem dX6_count_56 : decode cX6_count 56 = .ok (.getfield 150, 3) := by decide +kernel
theorem dX6_count_59 : decode cX6_count 59 = .ok (.ireturn, 1) := by decide +kernel
theorem dX6_count_60 : decode cX6_count 60 = .ok (.aload_n 0, 1) := by decide +kernel
theorem dX6_count_61 : decode cX6_count 61 = .ok (.getfield 130, 3) := by decide +kernel
theorem dX6_count_64 : decode cX6_count 64 = .ok (.ireturn, 1) := by decide +kernel
theorem dX6_count_65 : decode cX6_count 65 = .ok (.iconst (-1), 1) := by decide +kernel
theorem dX6_count_66 : decode cX6_count 66 = .ok (.ireturn, 1) := by decide +kernel
theorem dJx00060_init_da8c8_0 : decode cJx00060_init_da8c8 0 = .ok (.aload_n 0, 1) := by decide +kernel
theorem dJx00060_init_da8c8_1 : decode cJx00060_init_da8c8 1 = .ok (.invokespecial 1, 3) := by decide +kernel
theorem dJx00060_init_da8c8_4 : decode cJx00060_init_da8c8 4 = .ok (.return_, 1) := by decide +kernel
theorem dL_at_0 : decode cL_at 0 = .ok (.aload_n 2, 1) := by decide +kernel
theorem dL_at_1 : decode cL_at 1 = .ok (.iconst 0, 1) := by decide +kernel
theorem dL_at_2 : decode cL_at 2 = .ok (.aload_n 0, 1) := by decide +kernel
theorem dL_at_3 : decode cL_at 3 = .ok (.iload_n 1, 1) := by decide +kernel
theorem dL_at_4 : decode cL_at 4 = .ok (.invokevirtual 7, 3) := by decide +kernel
theorem dL_at_7 : decode cL_at 7 = .ok (.i2l, 1) := by decide +kernel
theorem dL_at_8 : decode cL_at 8 = .ok (.lastore, 1) := by decide +kernel
theorem dL_at_9 : decode cL_at 9 = .ok (.goto 6, 3) := by decide +kernel
theorem dL_at_12 : decode cL_at 12 = .ok (.astore_n 3, 1) := by decide +kernel
theorem dL_at_13 : decode cL_at 13 = .ok (.iconst 1, 1) := by decide +kernel
theorem dL_at_14 : decode cL_at 14 = .ok (.ireturn, 1) := by decide +kernel
theorem dL_at_15 : decode cL_at 15 = .ok (.iconst 0, 1) := by decide +kernel
theorem dL_at_16 : decode cL_at 16 = .ok (.ireturn, 1) := by decide +kernel
theorem dL_law_0 : decode cL_law 0 = .ok (.new 8, 3) := by decide +kernel
theorem dL_law_3 : decode cL_law 3 = .ok (.dup, 1) := by decide +kernel
theorem dL_law_4 : decode cL_law 4 = .ok (.invokespecial 15, 3) := by decide +kernel
theorem dL_law_7 : decode cL_law 7 = .ok (.astore_n 1, 1) := by decide +kernel
theorem dL_law_8 : decode cL_law 8 = .ok (.new 16, 3) := by decide +kernel
theorem dL_law_11 : decode cL_law 11 = .ok (.dup, 1) := by decide +kernel
theorem dL_law_12 : decode cL_law 12 = .ok (.invokespecial 18, 3) := by decide +kernel
theorem dL_law_15 : decode cL_law 15 = .ok (.astore_n 2, 1) := by decide +kernel
theorem dL_law_16 : decode cL_law 16 = .ok (.iconst 1, 1) := by decide +kernel
theorem dL_law_17 : decode cL_law 17 = .ok (.newarray .long, 2) := by decide +kernel
theorem dL_law_19 : decode cL_law 19 = .ok (.astore_n 3, 1) := by decide +kernel
theorem dL_law_20 : decode cL_law 20 = .ok (.iconst 0, 1) := by decide +kernel
theorem dL_law_21 : decode cL_law 21 = .ok (.istore 4, 2) := by decide +kernel
theorem dL_law_23 : decode cL_law 23 = .ok (.iload 4, 2) := by decide +kernel
theorem dL_law_25 : decode cL_law 25 = .ok (.aload_n 0, 1) := by decide +kernel
theorem dL_law_26 : decode cL_law 26 = .ok (.arraylength, 1) := by decide +kernel
theorem dL_law_27 : decode cL_law 27 = .ok (.iconst 4, 1) := by decide +kernel
theorem dL_law_28 : decode cL_law 28 = .ok (.isub, 1) := by decide +kernel
theorem dL_law_29 : decode cL_law 29 = .ok (.if_icmp .gt 537, 3) := by decide +kernel
theorem dL_law_32 : decode cL_law 32 = .ok (.aload_n 0, 1) := by decide +kernel
theorem dL_law_33 : decode cL_law 33 = .ok (.iload 4, 2) := by decide +kernel
theorem dL_law_35 : decode cL_law 35 = .ok (.iaload, 1) := by decide +kernel
theorem dL_law_36 : decode cL_law 36 = .ok (.bipush 15, 2) := by decide +kernel
theorem dL_law_38 : decode cL_law 38 = .ok (.iand, 1) := by decide +kernel
theorem dL_law_39 : decode cL_law 39 = .ok (.tableswitch 521 0 12 #[65, 90, 127, 192, 217, 242, 291, 328, 365, 378, 434, 471, 496], 65) := by decide +kernel
theorem dL_law_104 : decode cL_law 104 = .ok (.aload_n 1, 1) := by decide +kernel
theorem dL_law_105 : decode cL_law 105 = .ok (.aload_n 0, 1) := by decide +kernel
theorem dL_law_106 : decode cL_law 106 = .ok (.iload 4, 2) := by decide +kernel
theorem dL_law_108 : decode cL_law 108 = .ok (.iconst 1, 1) := by decide +kernel
theorem dL_law_109 : decode cL_law 109 = .ok (.iadd, 1) := by decide +kernel
theorem dL_law_110 : decode cL_law 110 = .ok (.iaload, 1) := by decide +kernel
theorem dL_law_111 : decode cL_law 111 = .ok (.invokevirtual 19, 3) := by decide +kernel
theorem dL_law_114 : decode cL_law 114 = .ok (.aload_n 2, 1) := by decide +kernel
theorem dL_law_115 : decode cL_law 115 = .ok (.aload_n 0, 1) := by decide +kernel
theorem dL_law_116 : decode cL_law 116 = .ok (.iload 4, 2) := by decide +kernel
theorem dL_law_118 : decode cL_law 118 = .ok (.iconst 1, 1) := by decide +kernel
theorem dL_law_119 : decode cL_law 119 = .ok (.iadd, 1) := by decide +kernel
theorem dL_law_120 : decode cL_law 120 = .ok (.iaload, 1) := by decide +kernel
theorem dL_law_121 : decode cL_law 121 = .ok (.invokevirtual 22, 3) := by decide +kernel
theorem dL_law_124 : decode cL_law 124 = .ok (.if_icmp .eq 436, 3) := by decide +kernel
theorem dL_law_127 : decode cL_law 127 = .ok (.iconst 0, 1) := by decide +kernel
theorem dL_law_128 : decode cL_law 128 = .ok (.ireturn, 1) := by decide +kernel
theorem dL_law_129 : decode cL_law 129 = .ok (.aload_n 1, 1) := by decide +kernel
theorem dL_law_130 : decode cL_law 130 = .ok (.aload_n 0, 1) := by decide +kernel
theorem dL_law_131 : decode cL_law 131 = .ok (.iload 4, 2) := by decide +kernel
theorem dL_law_133 : decode cL_law 133 = .ok (.iconst 1, 1) := by decide +kernel
theorem dL_law_134 : decode cL_law 134 = .ok (.iadd, 1) := by decide +kernel
theorem dL_law_135 : decode cL_law 135 = .ok (.iaload, 1) := by decide +kernel
theorem dL_law_136 : decode cL_law 136 = .ok (.aload_n 0, 1) := by decide +kernel
theorem dL_law_137 : decode cL_law 137 = .ok (.iload 4, 2) := by decide +kernel
theorem dL_law_139 : decode cL_law 139 = .ok (.iconst 2, 1) := by decide +kernel
theorem dL_law_140 : decode cL_law 140 = .ok (.iadd, 1) := by decide +kernel
theorem dL_law_141 : decode cL_law 141 = .ok (.iaload, 1) := by decide +kernel
theorem dL_law_142 : decode cL_law 142 = .ok (.invokevirtual 23, 3) := by decide +kernel
theorem dL_law_145 : decode cL_law 145 = .ok (.aload_n 2, 1) := by decide +kernel
theorem dL_law_146 : decode cL_law 146 = .ok (.aload_n 0, 1) := by decide +kernel
theorem dL_law_147 : decode cL_law 147 = .ok (.iload 4, 2) := by decide +kernel
theorem dL_law_149 : decode cL_law 149 = .ok (.iconst 1, 1) := by decide +kernel
theorem dL_law_150 : decode cL_law 150 = .ok (.iadd, 1) := by decide +kernel
theorem dL_law_151 : decode cL_law 151 = .ok (.iaload, 1) := by decide +kernel
theorem dL_law_152 : decode cL_law 152 = .ok (.aload_n 0, 1) := by decide +kernel
theorem dL_law_153 : decode cL_law 153 = .ok (.iload 4, 2) := by decide +kernel
theorem dL_law_155 : decode cL_law 155 = .ok (.iconst 2, 1) := by decide +kernel
theorem dL_law_156 : decode cL_law 156 = .ok (.iadd, 1) := by decide +kernel
theorem dL_law_157 : decode cL_law 157 = .ok (.iaload, 1) := by decide +kernel
theorem dL_law_158 : decode cL_law 158 = .ok (.invokevirtual 27, 3) := by decide +kernel
theorem dL_law_161 : decode cL_law 161 = .ok (.if_icmp .eq 399, 3) := by decide +kernel
theorem dL_law_164 : decode cL_law 164 = .ok (.iconst 0, 1) := by decide +kernel
theorem dL_law_165 : decode cL_law 165 = .ok (.ireturn, 1) := by decide +kernel
theorem dL_law_166 : decode cL_law 166 = .ok (.aload_n 1, 1) := by decide +kernel
theorem dL_law_167 : decode cL_law 167 = .ok (.aload_n 0, 1) := by decide +kernel
theorem dL_law_168 : decode cL_law 168 = .ok (.iload 4, 2) := by decide +kernel
theorem dL_law_170 : decode cL_law 170 = .ok (.iconst 1, 1) := by decide +kernel
theorem dL_law_171 : decode cL_law 171 = .ok (.iadd, 1) := by decide +kernel
theorem dL_law_172 : decode cL_law 172 = .ok (.iaload, 1) := by decide +kernel
theorem dL_law_173 : decode cL_law 173 = .ok (.aload_n 0, 1) := by decide +kernel
theorem dL_law_174 : decode cL_law 174 = .ok (.iload 4, 2) := by decide +kernel
theorem dL_law_176 : decode cL_law 176 = .ok (.iconst 2, 1) := by decide +kernel
theorem dL_law_177 : decode cL_law 177 = .ok (.iadd, 1) := by decide +kernel
theorem dL_law_178 : decode cL_law 178 = .ok (.iaload, 1) := by decide +kernel
theorem dL_law_179 : decode cL_law 179 = .ok (.aload_n 0, 1) := by decide +kernel
theorem dL_law_180 : decode cL_law 180 = .ok (.iload 4, 2) := by decide +kernel
theorem dL_law_182 : decode cL_law 182 = .ok (.iconst 3, 1) := by decide +kernel
theorem dL_law_183 : decode cL_law 183 = .ok (.iadd, 1) := by decide +kernel
theorem dL_law_184 : decode cL_law 184 = .ok (.iaload, 1) := by decide +kernel
theorem dL_law_185 : decode cL_law 185 = .ok (.ifCond .eq 7, 3) := by decide +kernel
theorem dL_law_188 : decode cL_law 188 = .ok (.iconst 1, 1) := by decide +kernel
theorem dL_law_189 : decode cL_law 189 = .ok (.goto 4, 3) := by decide +kernel
theorem dL_law_192 : decode cL_law 192 = .ok (.iconst 0, 1) := by decide +kernel
theorem dL_law_193 : decode cL_law 193 = .ok (.invokevirtual 28, 3) := by decide +kernel
theorem dL_law_196 : decode cL_law 196 = .ok (.aload_n 2, 1) := by decide +kernel
theorem dL_law_197 : decode cL_law 197 = .ok (.aload_n 0, 1) := by decide +kernel
theorem dL_law_198 : decode cL_law 198 = .ok (.iload 4, 2) := by decide +kernel
theorem dL_law_200 : decode cL_law 200 = .ok (.iconst 1, 1) := by decide +kernel
theorem dL_law_201 : decode cL_law 201 = .ok (.iadd, 1) := by decide +kernel
theorem dL_law_202 : decode cL_law 202 = .ok (.iaload, 1) := by decide +kernel
theorem dL_law_203 : decode cL_law 203 = .ok (.aload_n 0, 1) := by decide +kernel
theorem dL_law_204 : decode cL_law 204 = .ok (.iload 4, 2) := by decide +kernel
theorem dL_law_206 : decode cL_law 206 = .ok (.iconst 2, 1) := by decide +kernel
theorem dL_law_207 : decode cL_law 207 = .ok (.iadd, 1) := by decide +kernel
theorem dL_law_208 : decode cL_law 208 = .ok (.iaload, 1) := by decide +kernel
theorem dL_law_209 : decode cL_law 209 = .ok (.aload_n 0, 1) := by decide +kernel
theorem dL_law_210 : decode cL_law 210 = .ok (.iload 4, 2) := by decide +kernel
theorem dL_law_212 : decode cL_law 212 = .ok (.iconst 3, 1) := by decide +kernel
theorem dL_law_213 : decode cL_law 213 = .ok (.iadd, 1) := by decide +kernel
theorem dL_law_214 : decode cL_law 214 = .ok (.iaload, 1) := by decide +kernel
theorem dL_law_215 : decode cL_law 215 = .ok (.ifCond .eq 7, 3) := by decide +kernel
theorem dL_law_218 : decode cL_law 218 = .ok (.iconst 1, 1) := by decide +kernel
theorem dL_law_219 : decode cL_law 219 = .ok (.goto 4, 3) := by decide +kernel
theorem dL_law_222 : decode cL_law 222 = .ok (.iconst 0, 1) := by decide +kernel
theorem dL_law_223 : decode cL_law 223 = .ok (.invokevirtual 32, 3) := by decide +kernel
theorem dL_law_226 : decode cL_law 226 = .ok (.if_icmp .eq 334, 3) := by decide +kernel
theorem dL_law_229 : decode cL_law 229 = .ok (.iconst 0, 1) := by decide +kernel
theorem dL_law_230 : decode cL_law 230 = .ok (.ireturn, 1) := by decide +kernel
theorem dL_law_231 : decode cL_law 231 = .ok (.aload_n 1, 1) := by decide +kernel
theorem dL_law_232 : decode cL_law 232 = .ok (.aload_n 0, 1) := by decide +kernel
theorem dL_law_233 : decode cL_law 233 = .ok (.iload 4, 2) := by decide +kernel
theorem dL_law_235 : decode cL_law 235 = .ok (.iconst 1, 1) := by decide +kernel
theorem dL_law_236 : decode cL_law 236 = .ok (.iadd, 1) := by decide +kernel
theorem dL_law_237 : decode cL_law 237 = .ok (.iaload, 1) := by decide +kernel
theorem dL_law_238 : decode cL_law 238 = .ok (.invokevirtual 33, 3) := by decide +kernel
theorem dL_law_241 : decode cL_law 241 = .ok (.aload_n 2, 1) := by decide +kernel
theorem dL_law_242 : decode cL_law 242 = .ok (.aload_n 0, 1) := by decide +kernel
theorem dL_law_243 : decode cL_law 243 = .ok (.iload 4, 2) := by decide +kernel
theorem dL_law_245 : decode cL_law 245 = .ok (.iconst 1, 1) := by decide +kernel
theorem dL_law_246 : decode cL_law 246 = .ok (.iadd, 1) := by decide +kernel
theorem dL_law_247 : decode cL_law 247 = .ok (.iaload, 1) := by decide +kernel
theorem dL_law_248 : decode cL_law 248 = .ok (.invokevirtual 36, 3) := by decide +kernel
theorem dL_law_251 : decode cL_law 251 = .ok (.if_icmp .eq 309, 3) := by decide +kernel
theorem dL_law_254 : decode cL_law 254 = .ok (.iconst 0, 1) := by decide +kernel
theorem dL_law_255 : decode cL_law 255 = .ok (.ireturn, 1) := by decide +kernel
theorem dL_law_256 : decode cL_law 256 = .ok (.aload_n 1, 1) := by decide +kernel
theorem dL_law_257 : decode cL_law 257 = .ok (.aload_n 0, 1) := by decide +kernel
theorem dL_law_258 : decode cL_law 258 = .ok (.iload 4, 2) := by decide +kernel
theorem dL_law_260 : decode cL_law 260 = .ok (.iconst 1, 1) := by decide +kernel
theorem dL_law_261 : decode cL_law 261 = .ok (.iadd, 1) := by decide +kernel
theorem dL_law_262 : decode cL_law 262 = .ok (.iaload, 1) := by decide +kernel
theorem dL_law_263 : decode cL_law 263 = .ok (.invokevirtual 37, 3) := by decide +kernel
theorem dL_law_266 : decode cL_law 266 = .ok (.aload_n 2, 1) := by decide +kernel
theorem dL_law_267 : decode cL_law 267 = .ok (.aload_n 0, 1) := by decide +kernel
theorem dL_law_268 : decode cL_law 268 = .ok (.iload 4, 2) := by decide +kernel
theorem dL_law_270 : decode cL_law 270 = .ok (.iconst 1, 1) := by decide +kernel
theorem dL_law_271 : decode cL_law 271 = .ok (.iadd, 1) := by decide +kernel
theorem dL_law_272 : decode cL_law 272 = .ok (.iaload, 1) := by decide +kernel
theorem dL_law_273 : decode cL_law 273 = .ok (.invokevirtual 40, 3) := by decide +kernel
theorem dL_law_276 : decode cL_law 276 = .ok (.if_icmp .eq 284, 3) := by decide +kernel
theorem dL_law_279 : decode cL_law 279 = .ok (.iconst 0, 1) := by decide +kernel
theorem dL_law_280 : decode cL_law 280 = .ok (.ireturn, 1) := by decide +kernel
theorem dL_law_281 : decode cL_law 281 = .ok (.aload_n 1, 1) := by decide +kernel
theorem dL_law_282 : decode cL_law 282 = .ok (.aload_n 0, 1) := by decide +kernel
theorem dL_law_283 : decode cL_law 283 = .ok (.iload 4, 2) := by decide +kernel
theorem dL_law_285 : decode cL_law 285 = .ok (.iconst 1, 1) := by decide +kernel
theorem dL_law_286 : decode cL_law 286 = .ok (.iadd, 1) := by decide +kernel
theorem dL_law_287 : decode cL_law 287 = .ok (.iaload, 1) := by decide +kernel
theorem dL_law_288 : decode cL_law 288 = .ok (.aload_n 0, 1) := by decide +kernel
theorem dL_law_289 : decode cL_law 289 = .ok (.iload 4, 2) := by decide +kernel
theorem dL_law_291 : decode cL_law 291 = .ok (.iconst 2, 1) := by decide +kernel
theorem dL_law_292 : decode cL_law 292 = .ok (.iadd, 1) := by decide +kernel
theorem dL_law_293 : decode cL_law 293 = .ok (.iaload, 1) := by decide +kernel
theorem dL_law_294 : decode cL_law 294 = .ok (.aload_n 0, 1) := by decide +kernel
theorem dL_law_295 : decode cL_law 295 = .ok (.iload 4, 2) := by decide +kernel
theorem dL_law_297 : decode cL_law 297 = .ok (.iconst 3, 1) := by decide +kernel
theorem dL_law_298 : decode cL_law 298 = .ok (.iadd, 1) := by decide +kernel
theorem dL_law_299 : decode cL_law 299 = .ok (.iaload, 1) := by decide +kernel
theorem dL_law_300 : decode cL_law 300 = .ok (.invokevirtual 41, 3) := by decide +kernel
theorem dL_law_303 : decode cL_law 303 = .ok (.aload_n 2, 1) := by decide +kernel
theorem dL_law_304 : decode cL_law 304 = .ok (.aload_n 0, 1) := by decide +kernel
theorem dL_law_305 : decode cL_law 305 = .ok (.iload 4, 2) := by decide +kernel
theorem dL_law_307 : decode cL_law 307 = .ok (.iconst 1, 1) := by decide +kernel
theorem dL_law_308 : decode cL_law 308 = .ok (.iadd, 1) := by decide +kernel
theorem dL_law_309 : decode cL_law 309 = .ok (.iaload, 1) := by decide +kernel
theorem dL_law_310 : decode cL_law 310 = .ok (.aload_n 0, 1) := by decide +kernel
theorem dL_law_311 : decode cL_law 311 = .ok (.iload 4, 2) := by decide +kernel
theorem dL_law_313 : decode cL_law 313 = .ok (.iconst 2, 1) := by decide +kernel
theorem dL_law_314 : decode cL_law 314 = .ok (.iadd, 1) := by decide +kernel
theorem dL_law_315 : decode cL_law 315 = .ok (.iaload, 1) := by decide +kernel
theorem dL_law_316 : decode cL_law 316 = .ok (.aload_n 0, 1) := by decide +kernel
theorem dL_law_317 : decode cL_law 317 = .ok (.iload 4, 2) := by decide +kernel
theorem dL_law_319 : decode cL_law 319 = .ok (.iconst 3, 1) := by decide +kernel
theorem dL_law_320 : decode cL_law 320 = .ok (.iadd, 1) := by decide +kernel
theorem dL_law_321 : decode cL_law 321 = .ok (.iaload, 1) := by decide +kernel
theorem dL_law_322 : decode cL_law 322 = .ok (.invokevirtual 45, 3) := by decide +kernel
theorem dL_law_325 : decode cL_law 325 = .ok (.if_icmp .eq 235, 3) := by decide +kernel
theorem dL_law_328 : decode cL_law 328 = .ok (.iconst 0, 1) := by decide +kernel
theorem dL_law_329 : decode cL_law 329 = .ok (.ireturn, 1) := by decide +kernel
theorem dL_law_330 : decode cL_law 330 = .ok (.aload_n 1, 1) := by decide +kernel
theorem dL_law_331 : decode cL_law 331 = .ok (.aload_n 0, 1) := by decide +kernel
theorem dL_law_332 : decode cL_law 332 = .ok (.iload 4, 2) := by decide +kernel
theorem dL_law_334 : decode cL_law 334 = .ok (.iconst 1, 1) := by decide +kernel
theorem dL_law_335 : decode cL_law 335 = .ok (.iadd, 1) := by decide +kernel
theorem dL_law_336 : decode cL_law 336 = .ok (.iaload, 1) := by decide +kernel
theorem dL_law_337 : decode cL_law 337 = .ok (.aload_n 0, 1) := by decide +kernel
theorem dL_law_338 : decode cL_law 338 = .ok (.iload 4, 2) := by decide +kernel
theorem dL_law_340 : decode cL_law 340 = .ok (.iconst 2, 1) := by decide +kernel
theorem dL_law_341 : decode cL_law 341 = .ok (.iadd, 1) := by decide +kernel
theorem dL_law_342 : decode cL_law 342 = .ok (.iaload, 1) := by decide +kernel
theorem dL_law_343 : decode cL_law 343 = .ok (.invokevirtual 46, 3) := by decide +kernel
theorem dL_law_346 : decode cL_law 346 = .ok (.aload_n 2, 1) := by decide +kernel
theorem dL_law_347 : decode cL_law 347 = .ok (.aload_n 0, 1) := by decide +kernel
theorem dL_law_348 : decode cL_law 348 = .ok (.iload 4, 2) := by decide +kernel
theorem dL_law_350 : decode cL_law 350 = .ok (.iconst 1, 1) := by decide +kernel
theorem dL_law_351 : decode cL_law 351 = .ok (.iadd, 1) := by decide +kernel
theorem dL_law_352 : decode cL_law 352 = .ok (.iaload, 1) := by decide +kernel
theorem dL_law_353 : decode cL_law 353 = .ok (.aload_n 0, 1) := by decide +kernel
theorem dL_law_354 : decode cL_law 354 = .ok (.iload 4, 2) := by decide +kernel
theorem dL_law_356 : decode cL_law 356 = .ok (.iconst 2, 1) := by decide +kernel
theorem dL_law_357 : decode cL_law 357 = .ok (.iadd, 1) := by decide +kernel
theorem dL_law_358 : decode cL_law 358 = .ok (.iaload, 1) := by decide +kernel
theorem dL_law_359 : decode cL_law 359 = .ok (.invokevirtual 49, 3) := by decide +kernel
theorem dL_law_362 : decode cL_law 362 = .ok (.if_icmp .eq 198, 3) := by decide +kernel
theorem dL_law_365 : decode cL_law 365 = .ok (.iconst 0, 1) := by decide +kernel
theorem dL_law_366 : decode cL_law 366 = .ok (.ireturn, 1) := by decide +kernel
theorem dL_law_367 : decode cL_law 367 = .ok (.aload_n 1, 1) := by decide +kernel
theorem dL_law_368 : decode cL_law 368 = .ok (.aload_n 0, 1) := by decide +kernel
theorem dL_law_369 : decode cL_law 369 = .ok (.iload 4, 2) := by decide +kernel
theorem dL_law_371 : decode cL_law 371 = .ok (.iconst 1, 1) := by decide +kernel
theorem dL_law_372 : decode cL_law 372 = .ok (.iadd, 1) := by decide +kernel
theorem dL_law_373 : decode cL_law 373 = .ok (.iaload, 1) := by decide +kernel
theorem dL_law_374 : decode cL_law 374 = .ok (.aload_n 0, 1) := by decide +kernel
theorem dL_law_375 : decode cL_law 375 = .ok (.iload 4, 2) := by decide +kernel
theorem dL_law_377 : decode cL_law 377 = .ok (.iconst 2, 1) := by decide +kernel
theorem dL_law_378 : decode cL_law 378 = .ok (.iadd, 1) := by decide +kernel
theorem dL_law_379 : decode cL_law 379 = .ok (.iaload, 1) := by decide +kernel
theorem dL_law_380 : decode cL_law 380 = .ok (.invokevirtual 50, 3) := by decide +kernel
theorem dL_law_383 : decode cL_law 383 = .ok (.aload_n 2, 1) := by decide +kernel
theorem dL_law_384 : decode cL_law 384 = .ok (.aload_n 0, 1) := by decide +kernel
theorem dL_law_385 : decode cL_law 385 = .ok (.iload 4, 2) := by decide +kernel
theorem dL_law_387 : decode cL_law 387 = .ok (.iconst 1, 1) := by decide +kernel
theorem dL_law_388 : decode cL_law 388 = .ok (.iadd, 1) := by decide +kernel
theorem dL_law_389 : decode cL_law 389 = .ok (.iaload, 1) := by decide +kernel
theorem dL_law_390 : decode cL_law 390 = .ok (.aload_n 0, 1) := by decide +kernel
theorem dL_law_391 : decode cL_law 391 = .ok (.iload 4, 2) := by decide +kernel
theorem dL_law_393 : decode cL_law 393 = .ok (.iconst 2, 1) := by decide +kernel
theorem dL_law_394 : decode cL_law 394 = .ok (.iadd, 1) := by decide +kernel
theorem dL_law_395 : decode cL_law 395 = .ok (.iaload, 1) := by decide +kernel
theorem dL_law_396 : decode cL_law 396 = .ok (.invokevirtual 53, 3) := by decide +kernel
theorem dL_law_399 : decode cL_law 399 = .ok (.if_icmp .eq 161, 3) := by decide +kernel
theorem dL_law_402 : decode cL_law 402 = .ok (.iconst 0, 1) := by decide +kernel
theorem dL_law_403 : decode cL_law 403 = .ok (.ireturn, 1) := by decide +kernel
theorem dL_law_404 : decode cL_law 404 = .ok (.aload_n 1, 1) := by decide +kernel
theorem dL_law_405 : decode cL_law 405 = .ok (.invokevirtual 54, 3) := by decide +kernel
theorem dL_law_408 : decode cL_law 408 = .ok (.aload_n 2, 1) := by decide +kernel
theorem dL_law_409 : decode cL_law 409 = .ok (.invokevirtual 58, 3) := by decide +kernel
theorem dL_law_412 : decode cL_law 412 = .ok (.if_icmp .eq 148, 3) := by decide +kernel
theorem dL_law_415 : decode cL_law 415 = .ok (.iconst 0, 1) := by decide +kernel
theorem dL_law_416 : decode cL_law 416 = .ok (.ireturn, 1) := by decide +kernel
theorem dL_law_417 : decode cL_law 417 = .ok (.aload_n 1, 1) := by decide +kernel
theorem dL_law_418 : decode cL_law 418 = .ok (.aload_n 0, 1) := by decide +kernel
theorem dL_law_419 : decode cL_law 419 = .ok (.iload 4, 2) := by decide +kernel
theorem dL_law_421 : decode cL_law 421 = .ok (.iconst 1, 1) := by decide +kernel
theorem dL_law_422 : decode cL_law 422 = .ok (.iadd, 1) := by decide +kernel
theorem dL_law_423 : decode cL_law 423 = .ok (.iaload, 1) := by decide +kernel
theorem dL_law_424 : decode cL_law 424 = .ok (.aload_n 3, 1) := by decide +kernel
theorem dL_law_425 : decode cL_law 425 = .ok (.invokestatic 59, 3) := by decide +kernel
theorem dL_law_428 : decode cL_law 428 = .ok (.istore 5, 2) := by decide +kernel
theorem dL_law_430 : decode cL_law 430 = .ok (.aload_n 2, 1) := by decide +kernel
theorem dL_law_431 : decode cL_law 431 = .ok (.aload_n 0, 1) := by decide +kernel
theorem dL_law_432 : decode cL_law 432 = .ok (.iload 4, 2) := by decide +kernel
theorem dL_law_434 : decode cL_law 434 = .ok (.iconst 1, 1) := by decide +kernel
theorem dL_law_435 : decode cL_law 435 = .ok (.iadd, 1) := by decide +kernel
theorem dL_law_436 : decode cL_law 436 = .ok (.iaload, 1) := by decide +kernel
theorem dL_law_437 : decode cL_law 437 = .ok (.invokevirtual 64, 3) := by decide +kernel
theorem dL_law_440 : decode cL_law 440 = .ok (.istore 6, 2) := by decide +kernel
theorem dL_law_442 : decode cL_law 442 = .ok (.aload_n 2, 1) := by decide +kernel
theorem dL_law_443 : decode cL_law 443 = .ok (.invokevirtual 65, 3) := by decide +kernel
theorem dL_law_446 : decode cL_law 446 = .ok (.iload 5, 2) := by decide +kernel
theorem dL_law_448 : decode cL_law 448 = .ok (.if_icmp .eq 5, 3) := by decide +kernel
theorem dL_law_451 : decode cL_law 451 = .ok (.iconst 0, 1) := by decide +kernel
theorem dL_law_452 : decode cL_law 452 = .ok (.ireturn, 1) := by decide +kernel
theorem dL_law_453 : decode cL_law 453 = .ok (.iload 5, 2) := by decide +kernel
theorem dL_law_455 : decode cL_law 455 = .ok (.ifCond .ne 15, 3) := by decide +kernel
theorem dL_law_458 : decode cL_law 458 = .ok (.aload_n 3, 1) := by decide +kernel
theorem dL_law_459 : decode cL_law 459 = .ok (.iconst 0, 1) := by decide +kernel
theorem dL_law_460 : decode cL_law 460 = .ok (.laload, 1) := by decide +kernel
theorem dL_law_461 : decode cL_law 461 = .ok (.iload 6, 2) := by decide +kernel
theorem dL_law_463 : decode cL_law 463 = .ok (.i2l, 1) := by decide +kernel
theorem dL_law_464 : decode cL_law 464 = .ok (.lcmp, 1) := by decide +kernel
theorem dL_law_465 : decode cL_law 465 = .ok (.ifCond .eq 5, 3) := by decide +kernel
theorem dL_law_468 : decode cL_law 468 = .ok (.iconst 0, 1) := by decide +kernel
theorem dL_law_469 : decode cL_law 469 = .ok (.ireturn, 1) := by decide +kernel
theorem dL_law_470 : decode cL_law 470 = .ok (.goto 90, 3) := by decide +kernel
theorem dL_law_473 : decode cL_law 473 = .ok (.aload_n 1, 1) := by decide +kernel
theorem dL_law_474 : decode cL_law 474 = .ok (.aload_n 0, 1) := by decide +kernel
theorem dL_law_475 : decode cL_law 475 = .ok (.iload 4, 2) := by decide +kernel
theorem dL_law_477 : decode cL_law 477 = .ok (.iconst 1, 1) := by decide +kernel
theorem dL_law_478 : decode cL_law 478 = .ok (.iadd, 1) := by decide +kernel
theorem dL_law_479 : decode cL_law 479 = .ok (.iaload, 1) := by decide +kernel
theorem dL_law_480 : decode cL_law 480 = .ok (.aload_n 0, 1) := by decide +kernel
theorem dL_law_481 : decode cL_law 481 = .ok (.iload 4, 2) := by decide +kernel
theorem dL_law_483 : decode cL_law 483 = .ok (.iconst 2, 1) := by decide +kernel
theorem dL_law_484 : decode cL_law 484 = .ok (.iadd, 1) := by decide +kernel
theorem dL_law_485 : decode cL_law 485 = .ok (.iaload, 1) := by decide +kernel
theorem dL_law_486 : decode cL_law 486 = .ok (.invokevirtual 68, 3) := by decide +kernel
theorem dL_law_489 : decode cL_law 489 = .ok (.aload_n 2, 1) := by decide +kernel
theorem dL_law_490 : decode cL_law 490 = .ok (.aload_n 0, 1) := by decide +kernel
theorem dL_law_491 : decode cL_law 491 = .ok (.iload 4, 2) := by decide +kernel
theorem dL_law_493 : decode cL_law 493 = .ok (.iconst 1, 1) := by decide +kernel
theorem dL_law_494 : decode cL_law 494 = .ok (.iadd, 1) := by decide +kernel
theorem dL_law_495 : decode cL_law 495 = .ok (.iaload, 1) := by decide +kernel
theorem dL_law_496 : decode cL_law 496 = .ok (.aload_n 0, 1) := by decide +kernel
theorem dL_law_497 : decode cL_law 497 = .ok (.iload 4, 2) := by decide +kernel
theorem dL_law_499 : decode cL_law 499 = .ok (.iconst 2, 1) := by decide +kernel
theorem dL_law_500 : decode cL_law 500 = .ok (.iadd, 1) := by decide +kernel
theorem dL_law_501 : decode cL_law 501 = .ok (.iaload, 1) := by decide +kernel
theorem dL_law_502 : decode cL_law 502 = .ok (.invokevirtual 71, 3) := by decide +kernel
theorem dL_law_505 : decode cL_law 505 = .ok (.if_icmp .eq 55, 3) := by decide +kernel
theorem dL_law_508 : decode cL_law 508 = .ok (.iconst 0, 1) := by decide +kernel
theorem dL_law_509 : decode cL_law 509 = .ok (.ireturn, 1) := by decide +kernel
theorem dL_law_510 : decode cL_law 510 = .ok (.aload_n 1, 1) := by decide +kernel
theorem dL_law_511 : decode cL_law 511 = .ok (.aload_n 0, 1) := by decide +kernel
theorem dL_law_512 : decode cL_law 512 = .ok (.iload 4, 2) := by decide +kernel
theorem dL_law_514 : decode cL_law 514 = .ok (.iconst 1, 1) := by decide +kernel
theorem dL_law_515 : decode cL_law 515 = .ok (.iadd, 1) := by decide +kernel
theorem dL_law_516 : decode cL_law 516 = .ok (.iaload, 1) := by decide +kernel
theorem dL_law_517 : decode cL_law 517 = .ok (.invokevirtual 72, 3) := by decide +kernel
theorem dL_law_520 : decode cL_law 520 = .ok (.aload_n 2, 1) := by decide +kernel
theorem dL_law_521 : decode cL_law 521 = .ok (.aload_n 0, 1) := by decide +kernel
theorem dL_law_522 : decode cL_law 522 = .ok (.iload 4, 2) := by decide +kernel
theorem dL_law_524 : decode cL_law 524 = .ok (.iconst 1, 1) := by decide +kernel
theorem dL_law_525 : decode cL_law 525 = .ok (.iadd, 1) := by decide +kernel
theorem dL_law_526 : decode cL_law 526 = .ok (.iaload, 1) := by decide +kernel
theorem dL_law_527 : decode cL_law 527 = .ok (.invokevirtual 75, 3) := by decide +kernel
theorem dL_law_530 : decode cL_law 530 = .ok (.if_icmp .eq 30, 3) := by decide +kernel
theorem dL_law_533 : decode cL_law 533 = .ok (.iconst 0, 1) := by decide +kernel
theorem dL_law_534 : decode cL_law 534 = .ok (.ireturn, 1) := by decide +kernel
theorem dL_law_535 : decode cL_law 535 = .ok (.aload_n 1, 1) := by decide +kernel
theorem dL_law_536 : decode cL_law 536 = .ok (.aload_n 0, 1) := by decide +kernel
theorem dL_law_537 : decode cL_law 537 = .ok (.iload 4, 2) := by decide +kernel
theorem dL_law_539 : decode cL_law 539 = .ok (.iconst 1, 1) := by decide +kernel
theorem dL_law_540 : decode cL_law 540 = .ok (.iadd, 1) := by decide +kernel
theorem dL_law_541 : decode cL_law 541 = .ok (.iaload, 1) := by decide +kernel
theorem dL_law_542 : decode cL_law 542 = .ok (.invokevirtual 76, 3) := by decide +kernel
theorem dL_law_545 : decode cL_law 545 = .ok (.aload_n 2, 1) := by decide +kernel
theorem dL_law_546 : decode cL_law 546 = .ok (.aload_n 0, 1) := by decide +kernel
theorem dL_law_547 : decode cL_law 547 = .ok (.iload 4, 2) := by decide +kernel
theorem dL_law_549 : decode cL_law 549 = .ok (.iconst 1, 1) := by decide +kernel
theorem dL_law_550 : decode cL_law 550 = .ok (.iadd, 1) := by decide +kernel
theorem dL_law_551 : decode cL_law 551 = .ok (.iaload, 1) := by decide +kernel
theorem dL_law_552 : decode cL_law 552 = .ok (.invokevirtual 79, 3) := by decide +kernel
theorem dL_law_555 : decode cL_law 555 = .ok (.if_icmp .eq 5, 3) := by decide +kernel
theorem dL_law_558 : decode cL_law 558 = .ok (.iconst 0, 1) := by decide +kernel
theorem dL_law_559 : decode cL_law 559 = .ok (.ireturn, 1) := by decide +kernel
theorem dL_law_560 : decode cL_law 560 = .ok (.iinc 4 4, 3) := by decide +kernel
theorem dL_law_563 : decode cL_law 563 = .ok (.goto (-540), 3) := by decide +kernel
theorem dL_law_566 : decode cL_law 566 = .ok (.iconst 1, 1) := by decide +kernel
theorem dL_law_567 : decode cL_law 567 = .ok (.ireturn, 1) := by decide +kernel
end
section
/-! THE BASE: a memory by address and place, and the kit's rows said over it -/
/-- the good words of the tables -/
def gw : List Cond := lw_tbl.filter goodWord
theorem gw_of {w : Cond} (h : w ∈ lw_tbl) (h2 : goodWord w = true) : w ∈ gw := List.mem_filter.mpr ⟨h, h2⟩
theorem gw_in {w : Cond} (h : w ∈ gw) : w ∈ lw_tbl := (List.mem_filter.mp h).1
theorem gw_good {w : Cond} (h : w ∈ gw) : goodWord w = true := (List.mem_filter.mp h).2
/-- D (class numbers and slots), array classes by tag -/
abbrev Gx : Type := va_G × (Nat → ClassId)
def tysG (G : Gx) : List (ClassId × FieldType) := [(G.2 0, .int), (G.2 1, .boolean), (G.2 2, .long), (G.2 3, .object RX0), (G.2 4, .object RX2), (G.2 5, .object RX3)]
/-- which fields are references, by the class's place in vwCl -/
def ft : Nat → List Bool
  | 1 => [false, false, true, true]
  | 2 => [true, true, true, true, true, true, false]
  | 3 => [false, false, false, false, true, false]
  | 4 => [false, false, true, true, false]
  | 5 => [true, false]
  | 6 => [true, true, true, false, false, false, true, true, true, true, false, false, false]
  | 7 => [false, false, false, false, true, true, true, true, true, true, true, true, true, true, true, true, true, true, true, true, true, true, true, true, true, true, true, false, false, false, false, false, false, true]
  | _ => []
abbrev TK : Type := Nat → Nat
abbrev TI : Type := Nat → Nat → Int32
abbrev TR : Type := Nat → Nat → Option Nat
abbrev TL : Type := Nat → Nat → Int64
def fvO (I : TI) (R : TR) (a ci k : Nat) : Value := if (ft ci).getD k false then va_rf (R a k) else .int (I a k)
def fsO (I : TI) (R : TR) (a ci : Nat) : List Value := (List.range (ft ci).length).map (fvO I R a ci)
theorem fsO_get {I : TI} {R : TR} {a ci k : Nat} (h : k < (ft ci).length) : (fsO I R a ci)[k]? = some (fvO I R a ci k) := by
  simp [fsO, h]
theorem fsO_V {I : TI} {R : TR} {a ci k : Nat} (h : k < (ft ci).length) : vp_V (fsO I R a ci) k = fvO I R a ci k := by
  simp [vp_V, List.getD_eq_getElem?_getD, fsO_get h]
theorem fsO_len {I : TI} {R : TR} {a ci : Nat} : (fsO I R a ci).length = (ft ci).length := by simp [fsO]
def cellO (G : Gx) (K N : TK) (I : TI) (R : TR) (L : TL) (a : Nat) : Option va_E :=
  if 10 < K a ∧ K a < 18 then some (.inr (K a - 10, fsO I R a (K a - 10)))
  else if K a = 20 then some (.inl (G.2 0, N a, .inl (I a)))
  else if K a = 21 then some (.inl (G.2 1, N a, .inl (I a)))
  else if K a = 22 then some (.inl (G.2 2, N a, .inr (.inl (L a))))
  else if 22 < K a ∧ K a < 26 then some (.inl (G.2 (K a - 20), N a, .inr (.inr (.inr (.inr (R a))))))
  else none
theorem cellO_o {G : Gx} {K N : TK} {I : TI} {R : TR} {L : TL} {a ci : Nat} (h : K a = 10 + ci) (h0 : 0 < ci) (h1 : ci < 8) : cellO G K N I R L a = some (.inr (ci, fsO I R a ci)) := by
  unfold cellO
  rw [if_pos (by omega), h, Nat.add_sub_cancel_left]
theorem cellO_i {G : Gx} {K N : TK} {I : TI} {R : TR} {L : TL} {a : Nat} (h : K a = 20) : cellO G K N I R L a = some (.inl (G.2 0, N a, .inl (I a))) := by simp [cellO, h]
theorem cellO_z {G : Gx} {K N : TK} {I : TI} {R : TR} {L : TL} {a : Nat} (h : K a = 21) : cellO G K N I R L a = some (.inl (G.2 1, N a, .inl (I a))) := by simp [cellO, h]
theorem cellO_l {G : Gx} {K N : TK} {I : TI} {R : TR} {L : TL} {a : Nat} (h : K a = 22) : cellO G K N I R L a = some (.inl (G.2 2, N a, .inr (.inl (L a)))) := by simp [cellO, h]
theorem cellO_q {G : Gx} {K N : TK} {I : TI} {R : TR} {L : TL} {a t : Nat} (h : K a = 20 + t) (h0 : 2 < t) (h1 : t < 6) : cellO G K N I R L a = some (.inl (G.2 t, N a, .inr (.inr (.inr (.inr (R a)))))) := by
  unfold cellO
  rw [if_neg (by omega), if_neg (by omega), if_neg (by omega), if_neg (by omega), if_pos (by omega), h, Nat.add_sub_cancel_left]
/-- the heap holds the memory -/
def Rp (G : Gx) (K N : TK) (I : TI) (R : TR) (L : TL) (H : Heap) : Prop := ∀ (a : Nat) (e : va_E), cellO G K N I R L a = some e → va_at G.1 vwCl (a, e) H
/-- one place changes -/
def u2 {α : Type} (f : Nat → Nat → α) (a k : Nat) (v : α) : Nat → Nat → α := va_up f a (va_up (f a) k v)
theorem u2_ne {α : Type} (f : Nat → Nat → α) {a k b : Nat} (v : α) (h : b ≠ a) : u2 f a k v b = f b := va_up_ne _ _ h
theorem u2_at {α : Type} (f : Nat → Nat → α) (a k : Nat) (v : α) : u2 f a k v a = va_up (f a) k v := va_up_self _ _ _
theorem u2_self {α : Type} (f : Nat → Nat → α) (a k : Nat) (v : α) : u2 f a k v a k = v := by rw [u2_at, va_up_self]
theorem u2_nk {α : Type} (f : Nat → Nat → α) {a k b j : Nat} (v : α) (h : j ≠ k) : u2 f a k v b j = f b j := by
  by_cases hb : b = a
  · subst hb; rw [u2_at, va_up_ne _ _ h]
  · rw [u2_ne _ _ hb]
theorem u2_eq {α : Type} (f : Nat → Nat → α) (a k b j : Nat) (v : α) : u2 f a k v b j = if b = a ∧ j = k then v else f b j := by
  by_cases hb : b = a
  · subst hb
    by_cases hj : j = k
    · subst hj; simp [u2_self]
    · simp [u2_nk _ _ hj, hj]
  · simp [u2_ne _ _ hb, hb]
theorem cellO_near {G : Gx} {K N K' N' : TK} {I I' : TI} {R R' : TR} {L L' : TL} {b : Nat} (h1 : K' b = K b) (h2 : N' b = N b) (h3 : I' b = I b) (h4 : R' b = R b) (h5 : L' b = L b) : cellO G K' N' I' R' L' b = cellO G K N I R L b := by
  have hf : ∀ ci, fsO I' R' b ci = fsO I R b ci := fun ci => by simp [fsO, fvO, h3, h4]
  simp only [cellO, h1, h2, h3, h4, h5, hf]
theorem Rp.step {G : Gx} {K N K' N' : TK} {I I' : TI} {R R' : TR} {L L' : TL} {H H' : Heap} {a : Nat} (h : Rp G K N I R L H) (hK : ∀ b, b ≠ a → K' b = K b) (hN : ∀ b, b ≠ a → N' b = N b) (hI : ∀ b, b ≠ a → I' b = I b) (hR : ∀ b, b ≠ a → R' b = R b) (hL : ∀ b, b ≠ a → L' b = L b)
    (ho : ∀ b e, b ≠ a → cellO G K N I R L b = some e → H'[b]? = H[b]?) (ha : ∀ e, cellO G K' N' I' R' L' a = some e → va_at G.1 vwCl (a, e) H') : Rp G K' N' I' R' L' H' := by
  intro b e hb
  by_cases hba : b = a
  · subst hba; exact ha e hb
  · rw [cellO_near (hK b hba) (hN b hba) (hI b hba) (hR b hba) (hL b hba)] at hb
    exact (h b e hb).kept (ho b e hba hb)
/-- the world at a point of a method that began at s -/
def Wd (G : Gx) (A : Nat → Prop) (s : State) (K N : TK) (I : TI) (R : TR) (L : TL) (sz : Nat) (H : Heap) (locs : List Loc) : Prop :=
  H.size = sz ∧ Rp G K N I R L H ∧ va_S A s.heap H locs ∧ ∀ a, K a ≠ 0 → A a ∧ a < sz
def Wm (p : Program) (l : Launch) (e : Env) (Rm : Room) (s : State) (m : MethodId) (args : Array Value) (below : List Frame) (meth : Method) (c : Code) (Q : State → Prop) (A : Nat → Prop) (G : Gx) (nL pc : Nat) (lv : List (Nat × Value)) (st : List Value) (K N : TK) (I : TI) (R : TR) (L : TL) (sz cells slots : Nat) : Prop :=
  ∀ (H : Heap) (locs : List Loc) (ls : Array Slot), Wd G A s K N I R L sz H locs → lv_has ls nL lv → (∀ q ∈ lv, q.2.category = 1) → W p l e Rm s m args below meth c H locs cells slots Q (F0 m pc ls st)
/-- the nest mates' constructors: words that a contract hands on by itself -/
def nws : List Cond := [.methodLinkNest RX5 32 yX1_init RX5, .methodLinkNest RX3 11 yX1_init RX5, .methodLinkNest RX0 9 yX4_init RX5]
def NW (U : State) : Prop := (∀ w ∈ nws, va_Nw w U) ∧ va_AO RX0 U ∧ va_AO RX2 U ∧ va_AO RX3 U
theorem NW.same {u U : State} (h : u.vm = U.vm) (hN : NW u) : NW U := by
  have hA : u.vm.Alike U.vm := by rw [h]; exact Vm.Alike.refl _
  refine ⟨fun w hw => ?_, hN.2.1.moved hA, hN.2.2.1.moved hA, hN.2.2.2.moved hA⟩
  have h1 := hN.1 w hw
  simp only [nws, List.mem_cons, List.mem_nil_iff, or_false] at hw
  rcases hw with rfl | rfl | rfl <;> exact va_Nw.same rfl h h1
theorem NW.warm {s U : State} (hW : s.WarmedH U.vm) (hN : NW s) : NW U := by
  refine ⟨fun w hw => ?_, hN.2.1.moved hW.alike, hN.2.2.1.moved hW.alike, hN.2.2.2.moved hW.alike⟩
  have h1 := hN.1 w hw
  simp only [nws, List.mem_cons, List.mem_nil_iff, or_false] at hw
  rcases hw with rfl | rfl | rfl <;> exact va_Nw.warmM hW h1
/-- what is fixed in a method's body -/
def Cx (p : Program) (s : State) (m : MethodId) (args : Array Value) (meth : Method) (c : Code) (A : Nat → Prop) (G : Gx) (own : String) (cc : ByteArray) (nL : Nat) : Prop :=
  p.tables.exec = Jvm.exec ∧ c.code = cc ∧ c.maxLocals = nL ∧ s.vm.findClass own = some m.cls ∧ (∀ w ∈ gw, w.before args s = true) ∧ va_K G.1 vwCl (tysG G) s ∧ (∀ q, s.heap.size ≤ q → A q) ∧ meth.locks = false ∧ NW s
theorem va_P1 {D : va_G} {cl : List vw_C} {q : Nat × va_E} {H : Heap} (h : va_at D cl q H) : va_P D cl [q] H := by
  intro k r hk
  match k, hk with
  | 0, hk => cases hk; exact h
  | k + 1, hk => simp at hk
/-- locals: the value at a place; a value laid at a place, in the order of the places -/
def lget (lv : List (Nat × Value)) (i : Nat) : Option Value := match lv with
  | [] => none
  | q :: l => if q.1 == i then some q.2 else lget l i
def lset (lv : List (Nat × Value)) (i : Nat) (v : Value) : List (Nat × Value) := match lv with
  | [] => [(i, v)]
  | q :: l => if q.1 == i then (i, v) :: l.filter (fun q => !(q.1 == i)) else if Nat.blt i q.1 then (i, v) :: q :: l.filter (fun q => !(q.1 == i)) else q :: lset l i v
theorem lget_mem {lv : List (Nat × Value)} {i : Nat} {v : Value} (h : lget lv i = some v) : (i, v) ∈ lv := by
  induction lv with
  | nil => simp [lget] at h
  | cons q l ih =>
    unfold lget at h
    by_cases hq : q.1 = i
    · rw [if_pos (by simpa using hq)] at h
      have : q = (i, v) := by cases q; simp at h hq; simp [h, hq]
      rw [this]; exact List.mem_cons_self
    · rw [if_neg (by simpa using hq)] at h
      exact List.mem_cons_of_mem _ (ih h)
theorem lset_mem {lv : List (Nat × Value)} {i : Nat} {v : Value} {q : Nat × Value} (h : q ∈ lset lv i v) : q = (i, v) ∨ (q ∈ lv ∧ q.1 ≠ i) := by
  induction lv with
  | nil => simp [lset] at h; exact Or.inl h
  | cons r l ih =>
    unfold lset at h
    by_cases hr : r.1 = i
    · rw [if_pos (by simpa using hr)] at h
      rcases List.mem_cons.mp h with h | h
      · exact Or.inl h
      · rw [List.mem_filter] at h
        exact Or.inr ⟨List.mem_cons_of_mem _ h.1, by simpa using h.2⟩
    · rw [if_neg (by simpa using hr)] at h
      split at h
      · rcases List.mem_cons.mp h with h | h
        · exact Or.inl h
        · rcases List.mem_cons.mp h with h | h
          · subst h; exact Or.inr ⟨List.mem_cons_self, hr⟩
          · rw [List.mem_filter] at h
            exact Or.inr ⟨List.mem_cons_of_mem _ h.1, by simpa using h.2⟩
      · rcases List.mem_cons.mp h with h | h
        · subst h; exact Or.inr ⟨List.mem_cons_self, hr⟩
        · rcases ih h with h | h
          · exact Or.inl h
          · exact Or.inr ⟨List.mem_cons_of_mem _ h.1, h.2⟩
theorem lset_has {ls : Array Slot} {nL i : Nat} {lv : List (Nat × Value)} {v : Value} (hc : ∀ q ∈ lv, q.2.category = 1) (h : lv_has ls nL ((i, v) :: lv.filter (fun q => !(q.1 == i) && !(q.1 + 1 == i && q.2.category == 2)))) : lv_has ls nL (lset lv i v) := by
  refine ⟨h.1, h.2.1, fun q hq => ?_⟩
  rcases lset_mem hq with h1 | ⟨h1, h2⟩
  · exact h.2.2 q (by rw [h1]; exact List.mem_cons_self)
  · refine h.2.2 q (List.mem_cons_of_mem _ (List.mem_filter.mpr ⟨h1, ?_⟩))
    have := hc q h1
    simp [h2, this]
theorem lset_cat {lv : List (Nat × Value)} {i : Nat} {v : Value} (hc : ∀ q ∈ lv, q.2.category = 1) (hv : v.category = 1) : ∀ q ∈ lset lv i v, q.2.category = 1 := by
  intro q hq
  rcases lset_mem hq with h1 | ⟨h1, -⟩
  · rw [h1]; exact hv
  · exact hc q h1
theorem rf_cat (r : Option Nat) : (va_rf r).category = 1 := by cases r <;> rfl
end
section
section ROWS
variable {p : Program} {l : Launch} {e : Env} {Rm : Room} {s : State} {m : MethodId} {args : Array Value} {below : List Frame} {meth : Method} {c : Code} {Q : State → Prop} {A : Nat → Prop} {G : Gx} {own : String} {cc : ByteArray} {nL pc : Nat} {lv : List (Nat × Value)} {st : List Value} {K N : TK} {I : TI} {R : TR} {L : TL} {sz cells slots : Nat}
theorem wm_iconst (C : Cx p s m args meth c A G own cc nL) {n : Int} (v : Int32) (hdg : decode cc pc = .ok (.iconst n, 1)) (k : Wm p l e Rm s m args below meth c Q A G nL (pc + 1) lv (.int v :: st) K N I R L sz cells slots) (hv : Int32.ofInt n = v) : Wm p l e Rm s m args below meth c Q A G nL pc lv st K N I R L sz cells slots :=
  fun H locs ls hW hl hc => lv_iconst C.1 C.2.1 hdg hv (k H locs ls hW hl hc)
theorem wm_bipush (C : Cx p s m args meth c A G own cc nL) {n : Int} (v : Int32) (hdg : decode cc pc = .ok (.bipush n, 2)) (k : Wm p l e Rm s m args below meth c Q A G nL (pc + 2) lv (.int v :: st) K N I R L sz cells slots) (hv : (Int8.ofInt n).toInt32 = v) : Wm p l e Rm s m args below meth c Q A G nL pc lv st K N I R L sz cells slots :=
  fun H locs ls hW hl hc => lv_bipush C.1 C.2.1 hdg hv (k H locs ls hW hl hc)
theorem wm_sipush (C : Cx p s m args meth c A G own cc nL) {n : Int} (v : Int32) (hdg : decode cc pc = .ok (.sipush n, 3)) (k : Wm p l e Rm s m args below meth c Q A G nL (pc + 3) lv (.int v :: st) K N I R L sz cells slots) (hv : (Int16.ofInt n).toInt32 = v) : Wm p l e Rm s m args below meth c Q A G nL pc lv st K N I R L sz cells slots :=
  fun H locs ls hW hl hc => lv_sipush C.1 C.2.1 hdg hv (k H locs ls hW hl hc)
theorem wm_ldc (C : Cx p s m args meth c A G own cc nL) {index : Nat} (v : Int32) (hw : Cond.constant own index v ∈ gw) (hdg : decode cc pc = .ok (.ldc index, 2)) (k : Wm p l e Rm s m args below meth c Q A G nL (pc + 2) lv (.int v :: st) K N I R L sz cells slots) : Wm p l e Rm s m args below meth c Q A G nL pc lv st K N I R L sz cells slots :=
  fun H locs ls hW hl hc => lv_ldc C.1 C.2.1 C.2.2.2.1 (C.2.2.2.2.1 _ hw) hdg (k H locs ls hW hl hc)
theorem wm_iload_n (C : Cx p s m args meth c A G own cc nL) {j : Fin 4} {x : Int32} (hx : lget lv j.val = some (.int x)) (hdg : decode cc pc = .ok (.iload_n j, 1)) (k : Wm p l e Rm s m args below meth c Q A G nL (pc + 1) lv (.int x :: st) K N I R L sz cells slots) : Wm p l e Rm s m args below meth c Q A G nL pc lv st K N I R L sz cells slots :=
  fun H locs ls hW hl hc => lv_iload_n C.1 C.2.1 hdg rfl (hl.2.2 _ (lget_mem hx)) (k H locs ls hW hl hc)
theorem wm_iload (C : Cx p s m args meth c A G own cc nL) {j : Nat} {x : Int32} (hx : lget lv j = some (.int x)) (hdg : decode cc pc = .ok (.iload j, 2)) (k : Wm p l e Rm s m args below meth c Q A G nL (pc + 2) lv (.int x :: st) K N I R L sz cells slots) : Wm p l e Rm s m args below meth c Q A G nL pc lv st K N I R L sz cells slots :=
  fun H locs ls hW hl hc => lv_iload C.1 C.2.1 hdg (hl.2.2 _ (lget_mem hx)) (k H locs ls hW hl hc)
theorem wm_aload_n (C : Cx p s m args meth c A G own cc nL) {j : Fin 4} {x : Nat} (hx : lget lv j.val = some (.ref x)) (hdg : decode cc pc = .ok (.aload_n j, 1)) (k : Wm p l e Rm s m args below meth c Q A G nL (pc + 1) lv (.ref x :: st) K N I R L sz cells slots) : Wm p l e Rm s m args below meth c Q A G nL pc lv st K N I R L sz cells slots :=
  fun H locs ls hW hl hc => lv_aload_n C.1 C.2.1 hdg rfl (hl.2.2 _ (lget_mem hx)) (k H locs ls hW hl hc)
theorem wm_aload (C : Cx p s m args meth c A G own cc nL) {j : Nat} {x : Nat} (hx : lget lv j = some (.ref x)) (hdg : decode cc pc = .ok (.aload j, 2)) (k : Wm p l e Rm s m args below meth c Q A G nL (pc + 2) lv (.ref x :: st) K N I R L sz cells slots) : Wm p l e Rm s m args below meth c Q A G nL pc lv st K N I R L sz cells slots :=
  fun H locs ls hW hl hc => lv_aload C.1 C.2.1 hdg (hl.2.2 _ (lget_mem hx)) (k H locs ls hW hl hc)
theorem wm_aloadN_n (C : Cx p s m args meth c A G own cc nL) {j : Fin 4} (hx : lget lv j.val = some .null) (hdg : decode cc pc = .ok (.aload_n j, 1)) (k : Wm p l e Rm s m args below meth c Q A G nL (pc + 1) lv (.null :: st) K N I R L sz cells slots) : Wm p l e Rm s m args below meth c Q A G nL pc lv st K N I R L sz cells slots :=
  fun H locs ls hW hl hc => lv_aload_nN C.1 C.2.1 hdg rfl (hl.2.2 _ (lget_mem hx)) (k H locs ls hW hl hc)
theorem wm_aloadN (C : Cx p s m args meth c A G own cc nL) {j : Nat} (hx : lget lv j = some .null) (hdg : decode cc pc = .ok (.aload j, 2)) (k : Wm p l e Rm s m args below meth c Q A G nL (pc + 2) lv (.null :: st) K N I R L sz cells slots) : Wm p l e Rm s m args below meth c Q A G nL pc lv st K N I R L sz cells slots :=
  fun H locs ls hW hl hc => lv_aloadN C.1 C.2.1 hdg (hl.2.2 _ (lget_mem hx)) (k H locs ls hW hl hc)
theorem wm_aloadQ_n (C : Cx p s m args meth c A G own cc nL) {j : Fin 4} {r : Option Nat} (hx : lget lv j.val = some (va_rf r)) (hdg : decode cc pc = .ok (.aload_n j, 1)) (k : Wm p l e Rm s m args below meth c Q A G nL (pc + 1) lv (va_rf r :: st) K N I R L sz cells slots) : Wm p l e Rm s m args below meth c Q A G nL pc lv st K N I R L sz cells slots :=
  fun H locs ls hW hl hc => by
    cases r with
    | none => exact wm_aloadN_n C hx hdg k H locs ls hW hl hc
    | some x => exact wm_aload_n C hx hdg k H locs ls hW hl hc
theorem wm_aloadQ (C : Cx p s m args meth c A G own cc nL) {j : Nat} {r : Option Nat} (hx : lget lv j = some (va_rf r)) (hdg : decode cc pc = .ok (.aload j, 2)) (k : Wm p l e Rm s m args below meth c Q A G nL (pc + 2) lv (va_rf r :: st) K N I R L sz cells slots) : Wm p l e Rm s m args below meth c Q A G nL pc lv st K N I R L sz cells slots :=
  fun H locs ls hW hl hc => by
    cases r with
    | none => exact wm_aloadN C hx hdg k H locs ls hW hl hc
    | some x => exact wm_aload C hx hdg k H locs ls hW hl hc
theorem wm_istore_n (C : Cx p s m args meth c A G own cc nL) {j : Fin 4} {x : Int32} (hn : j.val < nL) (hdg : decode cc pc = .ok (.istore_n j, 1)) (k : Wm p l e Rm s m args below meth c Q A G nL (pc + 1) (lset lv j.val (.int x)) st K N I R L sz cells slots) : Wm p l e Rm s m args below meth c Q A G nL pc lv (.int x :: st) K N I R L sz cells slots :=
  fun H locs ls hW hl hc => lv_istore_n C.1 C.2.1 hdg rfl hl hn rfl (fun ls2 hl2 => k H locs ls2 hW (lset_has hc hl2) (lset_cat hc rfl))
theorem wm_istore (C : Cx p s m args meth c A G own cc nL) {j : Nat} {x : Int32} (hn : j < nL) (hdg : decode cc pc = .ok (.istore j, 2)) (k : Wm p l e Rm s m args below meth c Q A G nL (pc + 2) (lset lv j (.int x)) st K N I R L sz cells slots) : Wm p l e Rm s m args below meth c Q A G nL pc lv (.int x :: st) K N I R L sz cells slots :=
  fun H locs ls hW hl hc => lv_istore C.1 C.2.1 hdg hl hn rfl (fun ls2 hl2 => k H locs ls2 hW (lset_has hc hl2) (lset_cat hc rfl))
theorem wm_astore_n (C : Cx p s m args meth c A G own cc nL) {j : Fin 4} {x : Nat} (hn : j.val < nL) (hdg : decode cc pc = .ok (.astore_n j, 1)) (k : Wm p l e Rm s m args below meth c Q A G nL (pc + 1) (lset lv j.val (.ref x)) st K N I R L sz cells slots) : Wm p l e Rm s m args below meth c Q A G nL pc lv (.ref x :: st) K N I R L sz cells slots :=
  fun H locs ls hW hl hc => lv_astore_n C.1 C.2.1 hdg rfl hl hn rfl (fun ls2 hl2 => k H locs ls2 hW (lset_has hc hl2) (lset_cat hc rfl))
theorem wm_astore (C : Cx p s m args meth c A G own cc nL) {j : Nat} {x : Nat} (hn : j < nL) (hdg : decode cc pc = .ok (.astore j, 2)) (k : Wm p l e Rm s m args below meth c Q A G nL (pc + 2) (lset lv j (.ref x)) st K N I R L sz cells slots) : Wm p l e Rm s m args below meth c Q A G nL pc lv (.ref x :: st) K N I R L sz cells slots :=
  fun H locs ls hW hl hc => lv_astore C.1 C.2.1 hdg hl hn rfl (fun ls2 hl2 => k H locs ls2 hW (lset_has hc hl2) (lset_cat hc rfl))
theorem wm_astoreN_n (C : Cx p s m args meth c A G own cc nL) {j : Fin 4} (hn : j.val < nL) (hdg : decode cc pc = .ok (.astore_n j, 1)) (k : Wm p l e Rm s m args below meth c Q A G nL (pc + 1) (lset lv j.val (.null)) st K N I R L sz cells slots) : Wm p l e Rm s m args below meth c Q A G nL pc lv (.null :: st) K N I R L sz cells slots :=
  fun H locs ls hW hl hc => lv_astore_nN C.1 C.2.1 hdg rfl hl hn rfl (fun ls2 hl2 => k H locs ls2 hW (lset_has hc hl2) (lset_cat hc rfl))
theorem wm_astoreN (C : Cx p s m args meth c A G own cc nL) {j : Nat} (hn : j < nL) (hdg : decode cc pc = .ok (.astore j, 2)) (k : Wm p l e Rm s m args below meth c Q A G nL (pc + 2) (lset lv j (.null)) st K N I R L sz cells slots) : Wm p l e Rm s m args below meth c Q A G nL pc lv (.null :: st) K N I R L sz cells slots :=
  fun H locs ls hW hl hc => lv_astoreN C.1 C.2.1 hdg hl hn rfl (fun ls2 hl2 => k H locs ls2 hW (lset_has hc hl2) (lset_cat hc rfl))
theorem wm_astoreQ_n (C : Cx p s m args meth c A G own cc nL) {j : Fin 4} {r : Option Nat} (hn : j.val < nL) (hdg : decode cc pc = .ok (.astore_n j, 1)) (k : Wm p l e Rm s m args below meth c Q A G nL (pc + 1) (lset lv j.val (va_rf r)) st K N I R L sz cells slots) : Wm p l e Rm s m args below meth c Q A G nL pc lv (va_rf r :: st) K N I R L sz cells slots :=
  fun H locs ls hW hl hc => by
    cases r with
    | none => exact wm_astoreN_n C hn hdg k H locs ls hW hl hc
    | some x => exact wm_astore_n C hn hdg k H locs ls hW hl hc
theorem wm_astoreQ (C : Cx p s m args meth c A G own cc nL) {j : Nat} {r : Option Nat} (hn : j < nL) (hdg : decode cc pc = .ok (.astore j, 2)) (k : Wm p l e Rm s m args below meth c Q A G nL (pc + 2) (lset lv j (va_rf r)) st K N I R L sz cells slots) : Wm p l e Rm s m args below meth c Q A G nL pc lv (va_rf r :: st) K N I R L sz cells slots :=
  fun H locs ls hW hl hc => by
    cases r with
    | none => exact wm_astoreN C hn hdg k H locs ls hW hl hc
    | some x => exact wm_astore C hn hdg k H locs ls hW hl hc
theorem wm_iinc (C : Cx p s m args meth c A G own cc nL) {j : Nat} {n : Int} {x : Int32} (v : Int32) (hx : lget lv j = some (.int x)) (hdg : decode cc pc = .ok (.iinc j n, 3)) (hv : x + Int32.ofInt n = v) (hn : j < nL) (k : Wm p l e Rm s m args below meth c Q A G nL (pc + 3) (lset lv j (.int v)) st K N I R L sz cells slots) : Wm p l e Rm s m args below meth c Q A G nL pc lv st K N I R L sz cells slots := by
  intro H locs ls hW hl hc
  obtain ⟨q, hq⟩ := List.getElem?_of_mem (lget_mem hx)
  exact lv_iinc C.1 C.2.1 hdg hl hq hv hn rfl (fun ls2 hl2 => k H locs ls2 hW (lset_has hc hl2) (lset_cat hc rfl))
theorem wm_iadd (C : Cx p s m args meth c A G own cc nL) {x y : Int32} (hdg : decode cc pc = .ok (.iadd, 1)) (k : Wm p l e Rm s m args below meth c Q A G nL (pc + 1) lv (.int (x + y) :: st) K N I R L sz cells slots) : Wm p l e Rm s m args below meth c Q A G nL pc lv (.int y :: .int x :: st) K N I R L sz cells slots :=
  fun H locs ls hW hl hc => lv_iadd C.1 C.2.1 hdg (k H locs ls hW hl hc)
theorem wm_isub (C : Cx p s m args meth c A G own cc nL) {x y : Int32} (hdg : decode cc pc = .ok (.isub, 1)) (k : Wm p l e Rm s m args below meth c Q A G nL (pc + 1) lv (.int (x - y) :: st) K N I R L sz cells slots) : Wm p l e Rm s m args below meth c Q A G nL pc lv (.int y :: .int x :: st) K N I R L sz cells slots :=
  fun H locs ls hW hl hc => lv_isub C.1 C.2.1 hdg (k H locs ls hW hl hc)
theorem wm_imul (C : Cx p s m args meth c A G own cc nL) {x y : Int32} (hdg : decode cc pc = .ok (.imul, 1)) (k : Wm p l e Rm s m args below meth c Q A G nL (pc + 1) lv (.int (x * y) :: st) K N I R L sz cells slots) : Wm p l e Rm s m args below meth c Q A G nL pc lv (.int y :: .int x :: st) K N I R L sz cells slots :=
  fun H locs ls hW hl hc => lv_imul C.1 C.2.1 hdg (k H locs ls hW hl hc)
theorem wm_iand (C : Cx p s m args meth c A G own cc nL) {x y : Int32} (hdg : decode cc pc = .ok (.iand, 1)) (k : Wm p l e Rm s m args below meth c Q A G nL (pc + 1) lv (.int (x &&& y) :: st) K N I R L sz cells slots) : Wm p l e Rm s m args below meth c Q A G nL pc lv (.int y :: .int x :: st) K N I R L sz cells slots :=
  fun H locs ls hW hl hc => lv_iand C.1 C.2.1 hdg (k H locs ls hW hl hc)
theorem wm_idiv (C : Cx p s m args meth c A G own cc nL) {x y : Int32} (hy : ¬ y = 0) (hdg : decode cc pc = .ok (.idiv, 1)) (k : Wm p l e Rm s m args below meth c Q A G nL (pc + 1) lv (.int (x / y) :: st) K N I R L sz cells slots) : Wm p l e Rm s m args below meth c Q A G nL pc lv (.int y :: .int x :: st) K N I R L sz cells slots :=
  fun H locs ls hW hl hc => lv_idiv C.1 C.2.1 hdg hy (k H locs ls hW hl hc)
theorem wm_irem (C : Cx p s m args meth c A G own cc nL) {x y : Int32} (hy : ¬ y = 0) (hdg : decode cc pc = .ok (.irem, 1)) (k : Wm p l e Rm s m args below meth c Q A G nL (pc + 1) lv (.int (x - x / y * y) :: st) K N I R L sz cells slots) : Wm p l e Rm s m args below meth c Q A G nL pc lv (.int y :: .int x :: st) K N I R L sz cells slots :=
  fun H locs ls hW hl hc => lv_irem C.1 C.2.1 hdg hy (k H locs ls hW hl hc)
theorem wm_i2l (C : Cx p s m args meth c A G own cc nL) {x : Int32} (hdg : decode cc pc = .ok (.i2l, 1)) (k : Wm p l e Rm s m args below meth c Q A G nL (pc + 1) lv (.long x.toInt64 :: st) K N I R L sz cells slots) : Wm p l e Rm s m args below meth c Q A G nL pc lv (.int x :: st) K N I R L sz cells slots :=
  fun H locs ls hW hl hc => lv_i2l C.1 C.2.1 hdg rfl (k H locs ls hW hl hc)
theorem wm_lcmp (C : Cx p s m args meth c A G own cc nL) {x y : Int64} (hdg : decode cc pc = .ok (.lcmp, 1)) (k : Wm p l e Rm s m args below meth c Q A G nL (pc + 1) lv (.int (lg_cmp x y) :: st) K N I R L sz cells slots) : Wm p l e Rm s m args below meth c Q A G nL pc lv (.long y :: .long x :: st) K N I R L sz cells slots :=
  fun H locs ls hW hl hc => W.lcmp C.1 C.2.1 hdg (k H locs ls hW hl hc)
theorem wm_dup (C : Cx p s m args meth c A G own cc nL) {v : Value} (hv : v.category = 1) (hdg : decode cc pc = .ok (.dup, 1)) (k : Wm p l e Rm s m args below meth c Q A G nL (pc + 1) lv (v :: v :: st) K N I R L sz cells slots) : Wm p l e Rm s m args below meth c Q A G nL pc lv (v :: st) K N I R L sz cells slots :=
  fun H locs ls hW hl hc => lv_dup C.1 C.2.1 hdg hv (k H locs ls hW hl hc)
theorem wm_dup2 (C : Cx p s m args meth c A G own cc nL) {v w : Value} (hv : v.category = 1) (hw : w.category = 1) (hdg : decode cc pc = .ok (.dup2, 1)) (k : Wm p l e Rm s m args below meth c Q A G nL (pc + 1) lv (v :: w :: v :: w :: st) K N I R L sz cells slots) : Wm p l e Rm s m args below meth c Q A G nL pc lv (v :: w :: st) K N I R L sz cells slots :=
  fun H locs ls hW hl hc => lv_dup2_11 C.1 C.2.1 hdg hv hw (k H locs ls hW hl hc)
theorem wm_pop (C : Cx p s m args meth c A G own cc nL) {v : Value} (hv : v.category = 1) (hdg : decode cc pc = .ok (.pop, 1)) (k : Wm p l e Rm s m args below meth c Q A G nL (pc + 1) lv st K N I R L sz cells slots) : Wm p l e Rm s m args below meth c Q A G nL pc lv (v :: st) K N I R L sz cells slots :=
  fun H locs ls hW hl hc => lv_pop C.1 C.2.1 hdg hv (k H locs ls hW hl hc)
theorem wm_null (C : Cx p s m args meth c A G own cc nL)  (hdg : decode cc pc = .ok (.aconst_null, 1)) (k : Wm p l e Rm s m args below meth c Q A G nL (pc + 1) lv (.null :: st) K N I R L sz cells slots) : Wm p l e Rm s m args below meth c Q A G nL pc lv st K N I R L sz cells slots :=
  fun H locs ls hW hl hc => lv_null C.1 C.2.1 hdg (k H locs ls hW hl hc)
theorem wm_icmp_eq (C : Cx p s m args meth c A G own cc nL) {x y : Int32} {off : Int} (tgt : Nat) (hdg : decode cc pc = .ok (.if_icmp .eq off, 3)) (ht : (pc : Int) + off = (tgt : Int)) (kt : x = y → Wm p l e Rm s m args below meth c Q A G nL tgt lv st K N I R L sz cells slots) (kf : ¬ x = y → Wm p l e Rm s m args below meth c Q A G nL (pc + 3) lv st K N I R L sz cells slots) : Wm p l e Rm s m args below meth c Q A G nL pc lv (.int y :: .int x :: st) K N I R L sz cells slots :=
  fun H locs ls hW hl hc => lv_icmp_eq C.1 C.2.1 hdg ht (fun h => kt h H locs ls hW hl hc) (fun h => kf h H locs ls hW hl hc)
theorem wm_if_eq (C : Cx p s m args meth c A G own cc nL) {x : Int32} {off : Int} (tgt : Nat) (hdg : decode cc pc = .ok (.ifCond .eq off, 3)) (ht : (pc : Int) + off = (tgt : Int)) (kt : x = 0 → Wm p l e Rm s m args below meth c Q A G nL tgt lv st K N I R L sz cells slots) (kf : ¬ x = 0 → Wm p l e Rm s m args below meth c Q A G nL (pc + 3) lv st K N I R L sz cells slots) : Wm p l e Rm s m args below meth c Q A G nL pc lv (.int x :: st) K N I R L sz cells slots :=
  fun H locs ls hW hl hc => lv_if_eq C.1 C.2.1 hdg ht (fun h => kt h H locs ls hW hl hc) (fun h => kf h H locs ls hW hl hc)
theorem wm_icmp_ne (C : Cx p s m args meth c A G own cc nL) {x y : Int32} {off : Int} (tgt : Nat) (hdg : decode cc pc = .ok (.if_icmp .ne off, 3)) (ht : (pc : Int) + off = (tgt : Int)) (kt : ¬ x = y → Wm p l e Rm s m args below meth c Q A G nL tgt lv st K N I R L sz cells slots) (kf : x = y → Wm p l e Rm s m args below meth c Q A G nL (pc + 3) lv st K N I R L sz cells slots) : Wm p l e Rm s m args below meth c Q A G nL pc lv (.int y :: .int x :: st) K N I R L sz cells slots :=
  fun H locs ls hW hl hc => lv_icmp_ne C.1 C.2.1 hdg ht (fun h => kt h H locs ls hW hl hc) (fun h => kf h H locs ls hW hl hc)
theorem wm_if_ne (C : Cx p s m args meth c A G own cc nL) {x : Int32} {off : Int} (tgt : Nat) (hdg : decode cc pc = .ok (.ifCond .ne off, 3)) (ht : (pc : Int) + off = (tgt : Int)) (kt : ¬ x = 0 → Wm p l e Rm s m args below meth c Q A G nL tgt lv st K N I R L sz cells slots) (kf : x = 0 → Wm p l e Rm s m args below meth c Q A G nL (pc + 3) lv st K N I R L sz cells slots) : Wm p l e Rm s m args below meth c Q A G nL pc lv (.int x :: st) K N I R L sz cells slots :=
  fun H locs ls hW hl hc => lv_if_ne C.1 C.2.1 hdg ht (fun h => kt h H locs ls hW hl hc) (fun h => kf h H locs ls hW hl hc)
theorem wm_icmp_lt (C : Cx p s m args meth c A G own cc nL) {x y : Int32} {off : Int} (tgt : Nat) (hdg : decode cc pc = .ok (.if_icmp .lt off, 3)) (ht : (pc : Int) + off = (tgt : Int)) (kt : x < y → Wm p l e Rm s m args below meth c Q A G nL tgt lv st K N I R L sz cells slots) (kf : ¬ x < y → Wm p l e Rm s m args below meth c Q A G nL (pc + 3) lv st K N I R L sz cells slots) : Wm p l e Rm s m args below meth c Q A G nL pc lv (.int y :: .int x :: st) K N I R L sz cells slots :=
  fun H locs ls hW hl hc => lv_icmp_lt C.1 C.2.1 hdg ht (fun h => kt h H locs ls hW hl hc) (fun h => kf h H locs ls hW hl hc)
theorem wm_if_lt (C : Cx p s m args meth c A G own cc nL) {x : Int32} {off : Int} (tgt : Nat) (hdg : decode cc pc = .ok (.ifCond .lt off, 3)) (ht : (pc : Int) + off = (tgt : Int)) (kt : x < 0 → Wm p l e Rm s m args below meth c Q A G nL tgt lv st K N I R L sz cells slots) (kf : ¬ x < 0 → Wm p l e Rm s m args below meth c Q A G nL (pc + 3) lv st K N I R L sz cells slots) : Wm p l e Rm s m args below meth c Q A G nL pc lv (.int x :: st) K N I R L sz cells slots :=
  fun H locs ls hW hl hc => lv_if_lt C.1 C.2.1 hdg ht (fun h => kt h H locs ls hW hl hc) (fun h => kf h H locs ls hW hl hc)
theorem wm_icmp_ge (C : Cx p s m args meth c A G own cc nL) {x y : Int32} {off : Int} (tgt : Nat) (hdg : decode cc pc = .ok (.if_icmp .ge off, 3)) (ht : (pc : Int) + off = (tgt : Int)) (kt : y ≤ x → Wm p l e Rm s m args below meth c Q A G nL tgt lv st K N I R L sz cells slots) (kf : ¬ y ≤ x → Wm p l e Rm s m args below meth c Q A G nL (pc + 3) lv st K N I R L sz cells slots) : Wm p l e Rm s m args below meth c Q A G nL pc lv (.int y :: .int x :: st) K N I R L sz cells slots :=
  fun H locs ls hW hl hc => lv_icmp_ge C.1 C.2.1 hdg ht (fun h => kt h H locs ls hW hl hc) (fun h => kf h H locs ls hW hl hc)
theorem wm_if_ge (C : Cx p s m args meth c A G own cc nL) {x : Int32} {off : Int} (tgt : Nat) (hdg : decode cc pc = .ok (.ifCond .ge off, 3)) (ht : (pc : Int) + off = (tgt : Int)) (kt : 0 ≤ x → Wm p l e Rm s m args below meth c Q A G nL tgt lv st K N I R L sz cells slots) (kf : ¬ 0 ≤ x → Wm p l e Rm s m args below meth c Q A G nL (pc + 3) lv st K N I R L sz cells slots) : Wm p l e Rm s m args below meth c Q A G nL pc lv (.int x :: st) K N I R L sz cells slots :=
  fun H locs ls hW hl hc => lv_if_ge C.1 C.2.1 hdg ht (fun h => kt h H locs ls hW hl hc) (fun h => kf h H locs ls hW hl hc)
theorem wm_icmp_gt (C : Cx p s m args meth c A G own cc nL) {x y : Int32} {off : Int} (tgt : Nat) (hdg : decode cc pc = .ok (.if_icmp .gt off, 3)) (ht : (pc : Int) + off = (tgt : Int)) (kt : y < x → Wm p l e Rm s m args below meth c Q A G nL tgt lv st K N I R L sz cells slots) (kf : ¬ y < x → Wm p l e Rm s m args below meth c Q A G nL (pc + 3) lv st K N I R L sz cells slots) : Wm p l e Rm s m args below meth c Q A G nL pc lv (.int y :: .int x :: st) K N I R L sz cells slots :=
  fun H locs ls hW hl hc => lv_icmp_gt C.1 C.2.1 hdg ht (fun h => kt h H locs ls hW hl hc) (fun h => kf h H locs ls hW hl hc)
theorem wm_if_gt (C : Cx p s m args meth c A G own cc nL) {x : Int32} {off : Int} (tgt : Nat) (hdg : decode cc pc = .ok (.ifCond .gt off, 3)) (ht : (pc : Int) + off = (tgt : Int)) (kt : 0 < x → Wm p l e Rm s m args below meth c Q A G nL tgt lv st K N I R L sz cells slots) (kf : ¬ 0 < x → Wm p l e Rm s m args below meth c Q A G nL (pc + 3) lv st K N I R L sz cells slots) : Wm p l e Rm s m args below meth c Q A G nL pc lv (.int x :: st) K N I R L sz cells slots :=
  fun H locs ls hW hl hc => lv_if_gt C.1 C.2.1 hdg ht (fun h => kt h H locs ls hW hl hc) (fun h => kf h H locs ls hW hl hc)
theorem wm_icmp_le (C : Cx p s m args meth c A G own cc nL) {x y : Int32} {off : Int} (tgt : Nat) (hdg : decode cc pc = .ok (.if_icmp .le off, 3)) (ht : (pc : Int) + off = (tgt : Int)) (kt : x ≤ y → Wm p l e Rm s m args below meth c Q A G nL tgt lv st K N I R L sz cells slots) (kf : ¬ x ≤ y → Wm p l e Rm s m args below meth c Q A G nL (pc + 3) lv st K N I R L sz cells slots) : Wm p l e Rm s m args below meth c Q A G nL pc lv (.int y :: .int x :: st) K N I R L sz cells slots :=
  fun H locs ls hW hl hc => lv_icmp_le C.1 C.2.1 hdg ht (fun h => kt h H locs ls hW hl hc) (fun h => kf h H locs ls hW hl hc)
theorem wm_if_le (C : Cx p s m args meth c A G own cc nL) {x : Int32} {off : Int} (tgt : Nat) (hdg : decode cc pc = .ok (.ifCond .le off, 3)) (ht : (pc : Int) + off = (tgt : Int)) (kt : x ≤ 0 → Wm p l e Rm s m args below meth c Q A G nL tgt lv st K N I R L sz cells slots) (kf : ¬ x ≤ 0 → Wm p l e Rm s m args below meth c Q A G nL (pc + 3) lv st K N I R L sz cells slots) : Wm p l e Rm s m args below meth c Q A G nL pc lv (.int x :: st) K N I R L sz cells slots :=
  fun H locs ls hW hl hc => lv_if_le C.1 C.2.1 hdg ht (fun h => kt h H locs ls hW hl hc) (fun h => kf h H locs ls hW hl hc)
theorem wm_goto (C : Cx p s m args meth c A G own cc nL) {off : Int} (tgt : Nat) (hdg : decode cc pc = .ok (.goto off, 3)) (k : Wm p l e Rm s m args below meth c Q A G nL tgt lv st K N I R L sz cells slots) (ht : (pc : Int) + off = (tgt : Int)) : Wm p l e Rm s m args below meth c Q A G nL pc lv st K N I R L sz cells slots :=
  fun H locs ls hW hl hc => lv_goto C.1 C.2.1 hdg ht (k H locs ls hW hl hc)
theorem wm_ifnonnull (C : Cx p s m args meth c A G own cc nL) {x : Nat} {off : Int} (tgt : Nat) (hdg : decode cc pc = .ok (.ifnonnull off, 3)) (k : Wm p l e Rm s m args below meth c Q A G nL tgt lv st K N I R L sz cells slots) (ht : (pc : Int) + off = (tgt : Int)) : Wm p l e Rm s m args below meth c Q A G nL pc lv (.ref x :: st) K N I R L sz cells slots :=
  fun H locs ls hW hl hc => lv_ifnonnull C.1 C.2.1 hdg ht (k H locs ls hW hl hc)
theorem wm_ifnonnullN (C : Cx p s m args meth c A G own cc nL) {off : Int} (hdg : decode cc pc = .ok (.ifnonnull off, 3)) (k : Wm p l e Rm s m args below meth c Q A G nL (pc + 3) lv st K N I R L sz cells slots) : Wm p l e Rm s m args below meth c Q A G nL pc lv (.null :: st) K N I R L sz cells slots :=
  fun H locs ls hW hl hc => lv_ifnonnullN C.1 C.2.1 hdg (k H locs ls hW hl hc)
theorem wm_ifnull (C : Cx p s m args meth c A G own cc nL) {x : Nat} {off : Int} (hdg : decode cc pc = .ok (.ifnull off, 3)) (k : Wm p l e Rm s m args below meth c Q A G nL (pc + 3) lv st K N I R L sz cells slots) : Wm p l e Rm s m args below meth c Q A G nL pc lv (.ref x :: st) K N I R L sz cells slots :=
  fun H locs ls hW hl hc => lv_ifnull C.1 C.2.1 hdg (k H locs ls hW hl hc)
theorem wm_ifnullN (C : Cx p s m args meth c A G own cc nL) {off : Int} (tgt : Nat) (hdg : decode cc pc = .ok (.ifnull off, 3)) (k : Wm p l e Rm s m args below meth c Q A G nL tgt lv st K N I R L sz cells slots) (ht : (pc : Int) + off = (tgt : Int)) : Wm p l e Rm s m args below meth c Q A G nL pc lv (.null :: st) K N I R L sz cells slots :=
  fun H locs ls hW hl hc => lv_ifnullN C.1 C.2.1 hdg ht (k H locs ls hW hl hc)
theorem wm_acmp_eq (C : Cx p s m args meth c A G own cc nL) {x y : Nat} {off : Int} (tgt : Nat) (hdg : decode cc pc = .ok (.if_acmp .eq off, 3)) (ht : (pc : Int) + off = (tgt : Int)) (kt : x = y → Wm p l e Rm s m args below meth c Q A G nL tgt lv st K N I R L sz cells slots) (kf : ¬ x = y → Wm p l e Rm s m args below meth c Q A G nL (pc + 3) lv st K N I R L sz cells slots) : Wm p l e Rm s m args below meth c Q A G nL pc lv (.ref y :: .ref x :: st) K N I R L sz cells slots :=
  fun H locs ls hW hl hc => lv_acmp_eq (rx := some x) (ry := some y) C.1 C.2.1 hdg ht (fun h => kt (Option.some.inj h) H locs ls hW hl hc) (fun h => kf (fun q => h (by rw [q])) H locs ls hW hl hc)
theorem wm_tableOut (C : Cx p s m args meth c A G own cc nL) {x : Int32} {dflt lo hi : Int} {offs : Array Int} {len : Nat} (tgt : Nat) (hdg : decode cc pc = .ok (.tableswitch dflt lo hi offs, len)) (h : x.toInt < lo ∨ hi < x.toInt) (ht : (pc : Int) + dflt = (tgt : Int)) (k : Wm p l e Rm s m args below meth c Q A G nL tgt lv st K N I R L sz cells slots) : Wm p l e Rm s m args below meth c Q A G nL pc lv (.int x :: st) K N I R L sz cells slots :=
  fun H locs ls hW hl hc => lv_tableOut C.1 C.2.1 hdg h ht (k H locs ls hW hl hc)
theorem wm_tableIn (C : Cx p s m args meth c A G own cc nL) {x : Int32} {dflt lo hi : Int} {offs : Array Int} {len : Nat} (off : Int) (tgt : Nat) (hdg : decode cc pc = .ok (.tableswitch dflt lo hi offs, len)) (h1 : ¬ x.toInt < lo) (h2 : ¬ hi < x.toInt) (ho : offs[(x.toInt - lo).toNat]? = some off) (ht : (pc : Int) + off = (tgt : Int)) (k : Wm p l e Rm s m args below meth c Q A G nL tgt lv st K N I R L sz cells slots) : Wm p l e Rm s m args below meth c Q A G nL pc lv (.int x :: st) K N I R L sz cells slots :=
  fun H locs ls hW hl hc => lv_tableIn C.1 C.2.1 hdg h1 h2 ho ht (k H locs ls hW hl hc)
theorem wm_sub {lv' : List (Nat × Value)} (h : ∀ q ∈ lv', q ∈ lv) (k : Wm p l e Rm s m args below meth c Q A G nL pc lv' st K N I R L sz cells slots) : Wm p l e Rm s m args below meth c Q A G nL pc lv st K N I R L sz cells slots :=
  fun H locs ls hW hl hc => k H locs ls hW ⟨hl.1, hl.2.1, fun q hq => hl.2.2 q (h q hq)⟩ (fun q hq => hc q (h q hq))
theorem wm_widen {cells' slots' : Nat} (h1 : cells ≤ cells') (h2 : slots ≤ slots') (k : Wm p l e Rm s m args below meth c Q A G nL pc lv st K N I R L sz cells' slots') : Wm p l e Rm s m args below meth c Q A G nL pc lv st K N I R L sz cells slots :=
  fun H locs ls hW hl hc => W.widen h1 h2 (k H locs ls hW hl hc)
end ROWS
end
section
/-! fields, arrays, new cells, over the memory -/
def FQ (own : String) (index ci k : Nat) (r : Bool) (ty : FieldType) (fin : Bool) : Prop :=
  0 < ci ∧ ci < 8 ∧ ∃ (Cn : String) (T : u_T) (n : Nat) (ty0 : Nat → FieldType), vwCl[ci]? = some (Cn, T, n) ∧ (∀ w ∈ u_ws Cn T n, w ∈ gw) ∧ k < n ∧ n = (ft ci).length ∧ Cond.fieldLink own index (T k).1 (T k).2.1 (T k).2.2.1 ∈ gw ∧ (ft ci).getD k false = r ∧
    (∀ k, k < n → parseFieldDescriptor (T k).2.2.1 = some (ty0 k)) ∧ (∀ a, a < n → ∀ b, b < n → a ≠ b → (T a).2.1 ≠ (T b).2.1) ∧ (T k).2.2.2 = fin ∧ parseFieldDescriptor (T k).2.2.1 = some ty ∧ (T k).1 = Cn
/-- a class that 'new' makes: its place, link, slots -/
def NQ (own : String) (index ci n : Nat) : Prop :=
  0 < ci ∧ ci < 8 ∧ ∃ (Cn : String) (T : u_T) (ty0 : Nat → FieldType), vwCl[ci]? = some (Cn, T, n) ∧ (∀ w ∈ u_ws Cn T n, w ∈ gw) ∧ n = (ft ci).length ∧ (∀ k, k < n → parseFieldDescriptor (T k).2.2.1 = some (ty0 k)) ∧ Cond.classLink own index Cn ∈ gw ∧ Cond.instantiable Cn n ∈ gw ∧ Cond.initialized Cn ∈ gw ∧ ∀ j, j < n → defaultValue (ty0 j) = if (ft ci).getD j false then .null else .int 0
section HEAP
variable {p : Program} {l : Launch} {e : Env} {Rm : Room} {s : State} {m : MethodId} {args : Array Value} {below : List Frame} {meth : Method} {c : Code} {Q : State → Prop} {A : Nat → Prop} {G : Gx} {own : String} {cc : ByteArray} {nL pc : Nat} {lv : List (Nat × Value)} {st : List Value} {K N : TK} {I : TI} {R : TR} {L : TL} {sz cells slots : Nat}
theorem wm_get0 (C : Cx p s m args meth c A G own cc nL) {a ci k index : Nat} {r fin : Bool} {ty : FieldType} (F : FQ own index ci k r ty fin) (hK : K a = 10 + ci) (hdg : decode cc pc = .ok (.getfield index, 3))
    (kk : Wm p l e Rm s m args below meth c Q A G nL (pc + 3) lv (fvO I R a ci k :: st) K N I R L sz cells slots) : Wm p l e Rm s m args below meth c Q A G nL pc lv (.ref a :: st) K N I R L sz cells slots := by
  intro H locs ls hW hl hc
  obtain ⟨hx, hb, hml, hown, hts, hKK, hA, hlk⟩ := C
  obtain ⟨h0, h1, Cn, T, n, ty0, hcl, hin, hk, hn', hlink, hr, hty, hnm, hfin, hd, hdecl⟩ := F
  exact va_get hx hb hts hin hown hKK (va_P1 (hW.2.1 a _ (cellO_o hK h0 h1))) 0 rfl hcl k hk (hts _ hlink) (fun _ h9 => h9) (fsO_get (by omega)) hdg (kk H locs ls hW hl hc)
theorem wm_getI (C : Cx p s m args meth c A G own cc nL) {a ci k index : Nat} {fin : Bool} {ty : FieldType} (F : FQ own index ci k false ty fin) (hK : K a = 10 + ci) (hdg : decode cc pc = .ok (.getfield index, 3))
    (kk : Wm p l e Rm s m args below meth c Q A G nL (pc + 3) lv (.int (I a k) :: st) K N I R L sz cells slots) : Wm p l e Rm s m args below meth c Q A G nL pc lv (.ref a :: st) K N I R L sz cells slots := by
  refine wm_get0 C F hK hdg ?_
  have : fvO I R a ci k = .int (I a k) := by
    obtain ⟨h0, h1, Cn, T, n, ty0, hcl, hin, hk, hn', hlink, hr, -⟩ := F
    rw [fvO, hr]; rfl
  rw [this]; exact kk
theorem wm_getR (C : Cx p s m args meth c A G own cc nL) {a ci k index b : Nat} {fin : Bool} {ty : FieldType} (F : FQ own index ci k true ty fin) (hK : K a = 10 + ci) (hR : R a k = some b) (hdg : decode cc pc = .ok (.getfield index, 3))
    (kk : Wm p l e Rm s m args below meth c Q A G nL (pc + 3) lv (.ref b :: st) K N I R L sz cells slots) : Wm p l e Rm s m args below meth c Q A G nL pc lv (.ref a :: st) K N I R L sz cells slots := by
  refine wm_get0 C F hK hdg ?_
  have : fvO I R a ci k = .ref b := by
    obtain ⟨h0, h1, Cn, T, n, ty0, hcl, hin, hk, hn', hlink, hr, -⟩ := F
    rw [fvO, hr, hR]; rfl
  rw [this]; exact kk
theorem fvO_putI {I : TI} {R : TR} {a ci k j : Nat} {v : Int32} (hr : (ft ci).getD k false = false) (hj : j < (ft ci).length) : updV (vp_V (fsO I R a ci)) k (.int v) j = vp_V (fsO (u2 I a k v) R a ci) j := by
  rw [fsO_V hj]
  unfold updV
  by_cases h : j = k
  · subst h; rw [if_pos rfl, fvO, hr, u2_self]; rfl
  · rw [if_neg h, fsO_V hj]; simp [fvO, u2_nk _ _ h]
theorem fvO_putR {I : TI} {R : TR} {a ci k j b : Nat} (hr : (ft ci).getD k false = true) (hj : j < (ft ci).length) : updV (vp_V (fsO I R a ci)) k (.ref b) j = vp_V (fsO I (u2 R a k (some b)) a ci) j := by
  rw [fsO_V hj]
  unfold updV
  by_cases h : j = k
  · subst h; rw [if_pos rfl, fvO, hr, u2_self]; rfl
  · rw [if_neg h, fsO_V hj]; simp [fvO, u2_nk _ _ h]
theorem wm_putI (C : Cx p s m args meth c A G own cc nL) {a ci k index : Nat} {v : Int32} (F : FQ own index ci k false .int false) (hK : K a = 10 + ci) (hdg : decode cc pc = .ok (.putfield index, 3))
    (kk : Wm p l e Rm s m args below meth c Q A G nL (pc + 3) lv st K N (u2 I a k v) R L sz cells slots) : Wm p l e Rm s m args below meth c Q A G nL pc lv (.int v :: .ref a :: st) K N I R L sz cells slots := by
  intro H locs ls hW hl hc
  obtain ⟨hx, hb, hml, hown, hts, hKK, hA, hlk⟩ := C
  obtain ⟨h0, h1, Cn, T, n, ty0, hcl, hin, hk, hn', hlink, hr, hty, hnm, hfin, hd, hdecl⟩ := F
  obtain ⟨hz, hP, hS, hB⟩ := hW
  have hap := va_apart (own := own) hts hin ty0 hty hnm hKK hcl
  obtain ⟨r, h1', cell, q1, q2, q3, q4⟩ := hP a _ (cellO_o hK h0 h1)
  have hr' : r = (Cn, T, n) := Option.some.inj (h1'.symm.trans hcl)
  subst hr'
  obtain ⟨hSl, hfc, kC, hkC, hkind⟩ := hKK.1 ci _ hcl
  obtain ⟨cf, kf, fi, f, hi, hsl⟩ := hSl k hk
  have hlay := hts _ (hin _ (u_in_lay hk))
  unfold u_lay at hlay
  rw [if_neg (by rw [hfin]; decide)] at hlay
  have hst := (u_facts hfc hkC (u_lays hts hin hk) hi).1
  have h6 := u_store hfc hkC hkind hlay hi hd (v := .int v) rfl rfl
  refine W.putK hx hb (f := f) ⟨hown, hts _ hlink, ⟨_, _, _, hi⟩, hst⟩ (by rw [q2]; exact h6) q1 q3 (by rw [hsl]; exact k2_hasslot (q4 k hk)) rfl rfl hdg fun H' e1 e2 e3 => ?_
  rw [hsl] at e1 ⊢
  refine kk H' _ ls ⟨e2.trans hz, ?_, hS.put e2 e3 (hB a (by omega)).1, hB⟩ hl hc
  refine hP.step (a := a) (fun _ _ => rfl) (fun _ _ => rfl) (fun b hb => u2_ne _ _ hb) (fun _ _ => rfl) (fun _ _ => rfl) (fun b e hb _ => e3 b hb) (fun e he => ?_)
  rw [cellO_o hK h0 h1] at he
  cases he
  exact ⟨_, hcl, t_OB.to (V := updV (vp_V (fsO I R a ci)) k (.int v)) ⟨_, e1, q2, q3, t_set q4 hap hk (.int v)⟩ (fun j hj => fvO_putI hr (by rw [← hn']; exact hj))⟩
theorem wm_putF0 (C : Cx p s m args meth c A G own cc nL) {a ci k index : Nat} {v : Value} {r : Bool} {ty : FieldType} {I' : TI} {R' : TR} (F : FQ own index ci k r ty true) (hin2 : meth.name = "<init>") (ho : vwCl[ci]?.map (·.1) = some own) (hK : K a = 10 + ci) (hn : narrow ty v = v) (hfit : fits ty v = true) (hI : ∀ b, b ≠ a → I' b = I b) (hR : ∀ b, b ≠ a → R' b = R b)
    (hup : ∀ j, j < (ft ci).length → updV (vp_V (fsO I R a ci)) k v j = vp_V (fsO I' R' a ci) j) (hdg : decode cc pc = .ok (.putfield index, 3))
    (kk : Wm p l e Rm s m args below meth c Q A G nL (pc + 3) lv st K N I' R' L sz cells slots) : Wm p l e Rm s m args below meth c Q A G nL pc lv (v :: .ref a :: st) K N I R L sz cells slots := by
  intro H locs ls hW hl hc
  obtain ⟨hx, hb, hml, hown, hts, hKK, hA, hlk⟩ := C
  obtain ⟨h0, h1, Cn, T, n, ty0, hcl, hin, hk, hn', hlink, hr, hty, hnm, hfin, hd, hdecl⟩ := F
  obtain ⟨hz, hP, hS, hB⟩ := hW
  have hap := va_apart (own := own) hts hin ty0 hty hnm hKK hcl
  obtain ⟨r, h1', cell, q1, q2, q3, q4⟩ := hP a _ (cellO_o hK h0 h1)
  have hr' : r = (Cn, T, n) := Option.some.inj (h1'.symm.trans hcl)
  subst hr'
  have hCn : Cn = own := by rw [hcl] at ho; exact Option.some.inj ho
  obtain ⟨hSl, hfc, kC, hkC, hkind⟩ := hKK.1 ci _ hcl
  obtain ⟨cf, kf, fi, f, hi, hsl⟩ := hSl k hk
  have hlay := hts _ (hin _ (u_in_lay hk))
  unfold u_lay at hlay
  rw [if_pos hfin] at hlay
  have hst := (u_facts hfc hkC (u_lays hts hin hk) hi).1
  have hcf : m.cls = cf := by
    obtain ⟨_, _, c', _, _, _, -, -, hf', -, -, -, hown2, -⟩ := Cond.laysFinal_spec hlay
    have e1 : c' = cf := by have := hi.symm.trans hf'; simp at this; exact this.1.symm
    rw [hdecl, hCn] at hown2
    rw [← e1]; exact Option.some.inj (hown.symm.trans hown2)
  have h6 := u_fits hfc hkC hkind (Or.inr hlay) hi hd hn hfit
  refine W.putFinK hx hb hown (hts _ hlink) hi hst hcf hin2 (by rw [q2]; exact h6) q1 q3 (by rw [hsl]; exact k2_hasslot (q4 k hk)) rfl rfl hdg fun H' e1 e2 e3 => ?_
  rw [hsl] at e1 ⊢
  refine kk H' _ ls ⟨e2.trans hz, ?_, hS.put e2 e3 (hB a (by omega)).1, hB⟩ hl hc
  refine hP.step (a := a) (fun _ _ => rfl) (fun _ _ => rfl) hI hR (fun _ _ => rfl) (fun b e hb _ => e3 b hb) (fun e he => ?_)
  rw [cellO_o hK h0 h1] at he
  cases he
  exact ⟨_, hcl, t_OB.to (V := updV (vp_V (fsO I R a ci)) k v) ⟨_, e1, q2, q3, t_set q4 hap hk v⟩ (fun j hj => hup j (by rw [← hn']; exact hj))⟩
theorem wm_putFI (C : Cx p s m args meth c A G own cc nL) {a ci k index : Nat} {v : Int32} {ty : FieldType} (F : FQ own index ci k false ty true) (hin2 : meth.name = "<init>") (ho : vwCl[ci]?.map (·.1) = some own) (hK : K a = 10 + ci) (hn : narrow ty (.int v) = .int v) (hfit : fits ty (.int v) = true) (hdg : decode cc pc = .ok (.putfield index, 3))
    (kk : Wm p l e Rm s m args below meth c Q A G nL (pc + 3) lv st K N (u2 I a k v) R L sz cells slots) : Wm p l e Rm s m args below meth c Q A G nL pc lv (.int v :: .ref a :: st) K N I R L sz cells slots :=
  wm_putF0 C F hin2 ho hK hn hfit (fun b hb => u2_ne _ _ hb) (fun _ _ => rfl) (fun j hj => fvO_putI (by obtain ⟨-, -, Cn, T, n, ty0, -, -, -, -, -, hr, -⟩ := F; exact hr) hj) hdg kk
theorem wm_putFR (C : Cx p s m args meth c A G own cc nL) {a ci k index b : Nat} {ty : FieldType} (F : FQ own index ci k true ty true) (hin2 : meth.name = "<init>") (ho : vwCl[ci]?.map (·.1) = some own) (hK : K a = 10 + ci) (hn : narrow ty (.ref b) = .ref b) (hfit : fits ty (.ref b) = true) (hdg : decode cc pc = .ok (.putfield index, 3))
    (kk : Wm p l e Rm s m args below meth c Q A G nL (pc + 3) lv st K N I (u2 R a k (some b)) L sz cells slots) : Wm p l e Rm s m args below meth c Q A G nL pc lv (.ref b :: .ref a :: st) K N I R L sz cells slots :=
  wm_putF0 C F hin2 ho hK hn hfit (fun _ _ => rfl) (fun b hb => u2_ne _ _ hb) (fun j hj => fvO_putR (by obtain ⟨-, -, Cn, T, n, ty0, -, -, -, -, -, hr, -⟩ := F; exact hr) hj) hdg kk
theorem wm_new (C : Cx p s m args meth c A G own cc nL) {ci index n : Nat} (F : NQ own index ci n) (hcells : cells + 1 ≤ Rm.cells) (hslots : slots + n ≤ Rm.slots) (hdg : decode cc pc = .ok (.new index, 3))
    (kk : Wm p l e Rm s m args below meth c Q A G nL (pc + 3) lv (.ref sz :: st) (va_up K sz (10 + ci)) N (va_up I sz (fun _ => 0)) (va_up R sz (fun _ => none)) L (sz + 1) (cells + 1) (slots + n)) : Wm p l e Rm s m args below meth c Q A G nL pc lv st K N I R L sz cells slots := by
  intro H locs ls hW hl hc
  obtain ⟨hx, hb, hml, hown, hts, hKK, hA, hlk⟩ := C
  obtain ⟨h0, h1, Cn, T, ty0, hcl, hin, hn', hty, hlink, hins, hini, hdef⟩ := F
  obtain ⟨hz, hP, hS, hB⟩ := hW
  have hKn := hKK.1 ci _ hcl
  refine W.newcK hx hb hown (hts _ hlink) (hts _ hins) (hts _ hini) rfl hdg hcells hslots hKn.2.1 hz fun H1 kC hkC e1 z1 o1 => ?_
  refine kk H1 _ ls ⟨z1, ?_, ⟨Nat.le_trans hS.1 (by omega), fun x h1 h2 => (o1 x (by have := hS.1; omega)).trans (hS.2.1 x h1 h2), hS.2.2⟩, fun a ha => ?_⟩ hl hc
  · refine hP.step (a := sz) (fun b hb => va_up_ne _ _ hb) (fun _ _ => rfl) (fun b hb => va_up_ne _ _ hb) (fun b hb => va_up_ne _ _ hb) (fun _ _ => rfl) (fun b e hb he => o1 b (by have := (hP b e he).lt; omega)) (fun e he => ?_)
    rw [cellO_o (ci := ci) (va_up_self _ _ _) h0 h1] at he
    cases he
    refine ⟨_, hcl, (u_born ty0 hts hin hKn hkC e1 hty).to (fun j hj => ?_)⟩
    have hj' : j < (ft ci).length := by rw [← hn']; exact hj
    rw [fsO_V hj', hdef j hj]
    simp only [fvO, va_up_self]
    split <;> rfl
  · by_cases h : a = sz
    · subst h; exact ⟨hA _ (by have := hS.1; omega), Nat.lt_succ_self _⟩
    · rw [va_up_ne _ _ h] at ha
      exact ⟨(hB a ha).1, Nat.lt_succ_of_lt (hB a ha).2⟩
end HEAP
end
section
/-! arrays over the memory -/
section ARR
variable {p : Program} {l : Launch} {e : Env} {Rm : Room} {s : State} {m : MethodId} {args : Array Value} {below : List Frame} {meth : Method} {c : Code} {Q : State → Prop} {A : Nat → Prop} {G : Gx} {own : String} {cc : ByteArray} {nL pc : Nat} {lv : List (Nat × Value)} {st : List Value} {K N : TK} {I : TI} {R : TR} {L : TL} {sz cells slots : Nat}
theorem wm_iald (C : Cx p s m args meth c A G own cc nL) {a : Nat} {i : Int32} (hK : K a = 20) (hin : vp_in i (N a)) (hdg : decode cc pc = .ok (.iaload, 1))
    (kk : Wm p l e Rm s m args below meth c Q A G nL (pc + 1) lv (.int (I a i.toNatClampNeg) :: st) K N I R L sz cells slots) : Wm p l e Rm s m args below meth c Q A G nL pc lv (.int i :: .ref a :: st) K N I R L sz cells slots := by
  intro H locs ls hW hl hc
  obtain ⟨hx, hb, hml, hown, hts, hKK, hA, hlk⟩ := C
  exact va_iald hx hb hKK (va_P1 (hW.2.1 a _ (cellO_i hK))) 0 0 rfl rfl hin hdg (kk H locs ls hW hl hc)
theorem wm_zald (C : Cx p s m args meth c A G own cc nL) {a : Nat} {i : Int32} (hK : K a = 21) (hin : vp_in i (N a)) (hdg : decode cc pc = .ok (.baload, 1))
    (kk : Wm p l e Rm s m args below meth c Q A G nL (pc + 1) lv (.int (I a i.toNatClampNeg) :: st) K N I R L sz cells slots) : Wm p l e Rm s m args below meth c Q A G nL pc lv (.int i :: .ref a :: st) K N I R L sz cells slots := by
  intro H locs ls hW hl hc
  obtain ⟨hx, hb, hml, hown, hts, hKK, hA, hlk⟩ := C
  exact va_zald hx hb hKK (va_P1 (hW.2.1 a _ (cellO_z hK))) 0 1 rfl rfl hin hdg (kk H locs ls hW hl hc)
theorem wm_lald (C : Cx p s m args meth c A G own cc nL) {a : Nat} {i : Int32} (hK : K a = 22) (hin : vp_in i (N a)) (hdg : decode cc pc = .ok (.laload, 1))
    (kk : Wm p l e Rm s m args below meth c Q A G nL (pc + 1) lv (.long (L a i.toNatClampNeg) :: st) K N I R L sz cells slots) : Wm p l e Rm s m args below meth c Q A G nL pc lv (.int i :: .ref a :: st) K N I R L sz cells slots := by
  intro H locs ls hW hl hc
  obtain ⟨hx, hb, hml, hown, hts, hKK, hA, hlk⟩ := C
  exact va_lald hx hb hKK (va_P1 (hW.2.1 a _ (cellO_l hK))) 0 2 rfl rfl hin hdg (kk H locs ls hW hl hc)
/-- the class of the elements of a reference array, by its tag -/
def qn : Nat → String
  | 3 => RX0
  | 4 => RX2
  | _ => RX3
theorem tys_q {G : Gx} {t : Nat} (h0 : 2 < t) (h1 : t < 6) : (tysG G)[t]? = some (G.2 t, .object (qn t)) := by
  rcases (show t = 3 ∨ t = 4 ∨ t = 5 by omega) with rfl | rfl | rfl <;> rfl
theorem wm_aald (C : Cx p s m args meth c A G own cc nL) {a t b : Nat} {i : Int32} (h0 : 2 < t) (h1 : t < 6) (hK : K a = 20 + t) (hin : vp_in i (N a)) (hR : R a i.toNatClampNeg = some b) (hdg : decode cc pc = .ok (.aaload, 1))
    (kk : Wm p l e Rm s m args below meth c Q A G nL (pc + 1) lv (.ref b :: st) K N I R L sz cells slots) : Wm p l e Rm s m args below meth c Q A G nL pc lv (.int i :: .ref a :: st) K N I R L sz cells slots := by
  intro H locs ls hW hl hc
  obtain ⟨hx, hb, hml, hown, hts, hKK, hA, hlk⟩ := C
  refine va_aldq hx hb hKK (va_P1 (hW.2.1 a _ (cellO_q hK h0 h1))) 0 t rfl (tys_q h0 h1) hin hdg ?_
  rw [hR]
  exact kk H locs ls hW hl hc
theorem wm_alen (C : Cx p s m args meth c A G own cc nL) {a : Nat} (hK : K a = 20 ∨ K a = 21 ∨ K a = 23 ∨ K a = 24 ∨ K a = 25) (hdg : decode cc pc = .ok (.arraylength, 1))
    (kk : Wm p l e Rm s m args below meth c Q A G nL (pc + 1) lv (.int (nI (N a)) :: st) K N I R L sz cells slots) : Wm p l e Rm s m args below meth c Q A G nL pc lv (.ref a :: st) K N I R L sz cells slots := by
  intro H locs ls hW hl hc
  obtain ⟨hx, hb, hml, hown, hts, hKK, hA, hlk⟩ := C
  rcases hK with hK | hK | hK | hK | hK
  · exact va_alen hx hb hKK (va_P1 (hW.2.1 a _ (cellO_i hK))) 0 0 rfl rfl rfl hdg (kk H locs ls hW hl hc)
  · exact va_alen hx hb hKK (va_P1 (hW.2.1 a _ (cellO_z hK))) 0 1 rfl rfl rfl hdg (kk H locs ls hW hl hc)
  · exact va_alen hx hb hKK (va_P1 (hW.2.1 a _ (cellO_q (t := 3) hK (by decide) (by decide)))) 0 3 rfl rfl rfl hdg (kk H locs ls hW hl hc)
  · exact va_alen hx hb hKK (va_P1 (hW.2.1 a _ (cellO_q (t := 4) hK (by decide) (by decide)))) 0 4 rfl rfl rfl hdg (kk H locs ls hW hl hc)
  · exact va_alen hx hb hKK (va_P1 (hW.2.1 a _ (cellO_q (t := 5) hK (by decide) (by decide)))) 0 5 rfl rfl rfl hdg (kk H locs ls hW hl hc)
theorem wm_iast (C : Cx p s m args meth c A G own cc nL) {a : Nat} {i x : Int32} (hK : K a = 20) (hin : vp_in i (N a)) (hdg : decode cc pc = .ok (.iastore, 1))
    (kk : Wm p l e Rm s m args below meth c Q A G nL (pc + 1) lv st K N (u2 I a i.toNatClampNeg x) R L sz cells slots) : Wm p l e Rm s m args below meth c Q A G nL pc lv (.int x :: .int i :: .ref a :: st) K N I R L sz cells slots := by
  intro H locs ls hW hl hc
  obtain ⟨hx, hb, hml, hown, hts, hKK, hA, hlk⟩ := C
  obtain ⟨hz, hP, hS, hB⟩ := hW
  refine W.iast hx hb (hP a _ (cellO_i hK)) ((hKK.2 0 _ rfl).1 (N a) (fun j => .int (I a j))) (fun q => by cases q) (by show ¬ (i < 0 ∨ (arrV _ _ _).slots.size ≤ _); rw [arrV_size]; exact hin) rfl rfl hdg fun H1 e1 e2 e3 => ?_
  refine kk H1 _ ls ⟨e2.trans hz, ?_, hS.put e2 e3 (hB a (by omega)).1, hB⟩ hl hc
  refine hP.step (a := a) (fun _ _ => rfl) (fun _ _ => rfl) (fun b hb => u2_ne _ _ hb) (fun _ _ => rfl) (fun _ _ => rfl) (fun b e hb _ => e3 b hb) (fun e he => ?_)
  rw [cellO_i hK] at he
  cases he
  show H1[a]? = some (vp_cell _ _)
  rw [e1, vp_cell_i, vp_cell_i, arrV_store, u2_at]
  congr 2
  funext q
  by_cases hq : q = i.toNatClampNeg
  · subst hq; simp [updV, va_up]
  · simp [updV, va_up, hq]
theorem wm_zast (C : Cx p s m args meth c A G own cc nL) {a : Nat} {i x : Int32} (hK : K a = 21) (hin : vp_in i (N a)) (hx01 : narrow .boolean (.int x) = .int x) (hdg : decode cc pc = .ok (.bastore, 1))
    (kk : Wm p l e Rm s m args below meth c Q A G nL (pc + 1) lv st K N (u2 I a i.toNatClampNeg x) R L sz cells slots) : Wm p l e Rm s m args below meth c Q A G nL pc lv (.int x :: .int i :: .ref a :: st) K N I R L sz cells slots := by
  intro H locs ls hW hl hc
  obtain ⟨hx, hb, hml, hown, hts, hKK, hA, hlk⟩ := C
  obtain ⟨hz, hP, hS, hB⟩ := hW
  refine W.zast hx hb (hP a _ (cellO_z hK)) ((hKK.2 1 _ rfl).1 (N a) (fun j => .int (I a j))) (fun q => by cases q) (by show ¬ (i < 0 ∨ (arrV _ _ _).slots.size ≤ _); rw [arrV_size]; exact hin) rfl rfl hdg fun H1 e1 e2 e3 => ?_
  refine kk H1 _ ls ⟨e2.trans hz, ?_, hS.put e2 e3 (hB a (by omega)).1, hB⟩ hl hc
  refine hP.step (a := a) (fun _ _ => rfl) (fun _ _ => rfl) (fun b hb => u2_ne _ _ hb) (fun _ _ => rfl) (fun _ _ => rfl) (fun b e hb _ => e3 b hb) (fun e he => ?_)
  rw [cellO_z hK] at he
  cases he
  rw [hx01] at e1
  show H1[a]? = some (vp_cell _ _)
  rw [e1, vp_cell_i, vp_cell_i, arrV_store, u2_at]
  congr 2
  funext q
  by_cases hq : q = i.toNatClampNeg
  · subst hq; simp [updV, va_up]
  · simp [updV, va_up, hq]
theorem wm_last (C : Cx p s m args meth c A G own cc nL) {a : Nat} {i : Int32} {x : Int64} (hK : K a = 22) (hin : vp_in i (N a)) (hdg : decode cc pc = .ok (.lastore, 1))
    (kk : Wm p l e Rm s m args below meth c Q A G nL (pc + 1) lv st K N I R (u2 L a i.toNatClampNeg x) sz cells slots) : Wm p l e Rm s m args below meth c Q A G nL pc lv (.long x :: .int i :: .ref a :: st) K N I R L sz cells slots := by
  intro H locs ls hW hl hc
  obtain ⟨hx, hb, hml, hown, hts, hKK, hA, hlk⟩ := C
  obtain ⟨hz, hP, hS, hB⟩ := hW
  refine W.last hx hb (hP a _ (cellO_l hK)) ((hKK.2 2 _ rfl).1 (N a) (fun j => .long (L a j))) (fun q => by cases q) (by show ¬ (i < 0 ∨ (arrV _ _ _).slots.size ≤ _); rw [arrV_size]; exact hin) rfl rfl hdg fun H1 e1 e2 e3 => ?_
  refine kk H1 _ ls ⟨e2.trans hz, ?_, hS.put e2 e3 (hB a (by omega)).1, hB⟩ hl hc
  refine hP.step (a := a) (fun _ _ => rfl) (fun _ _ => rfl) (fun _ _ => rfl) (fun _ _ => rfl) (fun b hb => u2_ne _ _ hb) (fun b e hb _ => e3 b hb) (fun e he => ?_)
  rw [cellO_l hK] at he
  cases he
  show H1[a]? = some (vp_cell _ _)
  rw [e1, vp_cell_l, vp_cell_l, arrV_store, u2_at]
  congr 2
  funext q
  by_cases hq : q = i.toNatClampNeg
  · subst hq; simp [updV, va_up]
  · simp [updV, va_up, hq]
/-- a reference array's tag and the class of what is stored -/
def tq : Nat → Nat
  | 3 => 1
  | 4 => 3
  | _ => 4
theorem vw_tq {t : Nat} (h0 : 2 < t) (h1 : t < 6) : ∃ r, vwCl[tq t]? = some r ∧ r.1 = qn t := by
  rcases (show t = 3 ∨ t = 4 ∨ t = 5 by omega) with rfl | rfl | rfl
  · exact ⟨_, rfl, rfl⟩
  · exact ⟨_, rfl, rfl⟩
  · exact ⟨_, rfl, rfl⟩
theorem tq_in {t : Nat} : 0 < tq t ∧ tq t < 8 := by
  unfold tq; split <;> decide
theorem wm_aast (C : Cx p s m args meth c A G own cc nL) {a t b : Nat} {i : Int32} (h0 : 2 < t) (h1 : t < 6) (hK : K a = 20 + t) (hin : vp_in i (N a)) (hb0 : K b = 10 + tq t) (hdg : decode cc pc = .ok (.aastore, 1))
    (kk : Wm p l e Rm s m args below meth c Q A G nL (pc + 1) lv st K N I (u2 R a i.toNatClampNeg (some b)) L sz cells slots) : Wm p l e Rm s m args below meth c Q A G nL pc lv (.ref b :: .int i :: .ref a :: st) K N I R L sz cells slots := by
  intro H locs ls hW hl hc
  obtain ⟨hx, hb, hml, hown, hts, hKK, hA, hlk⟩ := C
  obtain ⟨hz, hP, hS, hB⟩ := hW
  have hlt : i.toNatClampNeg < N a := Nat.not_le.mp fun q => hin (Or.inr q)
  have hi0 : ¬ i < 0 := fun q => hin (Or.inl q)
  obtain ⟨r, hr, hrq⟩ := vw_tq h0 h1
  obtain ⟨r', hr', cellV, g1, g2, g3, -⟩ := hP b _ (cellO_o hb0 tq_in.1 tq_in.2)
  have hcls := (hKK.1 (tq t) r hr).2
  obtain ⟨kA, comp, k1, k2, k3, -⟩ := (hKK.2 t _ (tys_q h0 h1)).2
  have hcomp : comp = G.1.1 (tq t) := by rw [← hrq] at k3; exact Option.some.inj (k3.symm.trans hcls.1)
  subst hcomp
  obtain ⟨kC, hkC, -⟩ := hcls.2
  refine W.aast hx hb (hP a _ (cellO_q hK h0 h1)) (fun q h => by cases h) (fun h => by cases h) k1 k2 rfl hkC ⟨hi0, by show _ < (arrV _ _ _).slots.size; rw [arrV_size]; exact hlt⟩ g1 (fun q h => by rw [g3] at h; cases h) (by rw [g2]; exact hkC) (by rw [g2]; exact va_assign hcls) rfl rfl hdg fun H1 e1 e2 e3 => ?_
  refine kk H1 _ ls ⟨e2.trans hz, ?_, hS.put e2 e3 (hB a (by omega)).1, hB⟩ hl hc
  refine hP.step (a := a) (fun _ _ => rfl) (fun _ _ => rfl) (fun _ _ => rfl) (fun b hb => u2_ne _ _ hb) (fun _ _ => rfl) (fun b e hb _ => e3 b hb) (fun e he => ?_)
  rw [cellO_q hK h0 h1] at he
  cases he
  show H1[a]? = some (vp_cell _ _)
  rw [e1, vp_cell_q, vp_cell_q, arrV_store, u2_at]
  congr 2
  funext q
  by_cases hq : q = i.toNatClampNeg
  · subst hq; simp [updV, va_up, va_rf]
  · simp [updV, va_up, hq]
/-- a new cell: the world behind it -/
theorem Wd.push {A : Nat → Prop} {s : State} {K' N' : TK} {I' : TI} {R' : TR} {L' : TL} {H H1 : Heap} {locs : List Loc} (hA : ∀ q, s.heap.size ≤ q → A q) (hW : Wd G A s K N I R L sz H locs) (z1 : H1.size = sz + 1) (o1 : ∀ q, q < sz → H1[q]? = H[q]?) (hK : ∀ b, b ≠ sz → K' b = K b) (hN : ∀ b, b ≠ sz → N' b = N b) (hI : ∀ b, b ≠ sz → I' b = I b) (hR : ∀ b, b ≠ sz → R' b = R b) (hL : ∀ b, b ≠ sz → L' b = L b)
    (ha : ∀ e, cellO G K' N' I' R' L' sz = some e → va_at G.1 vwCl (sz, e) H1) : Wd G A s K' N' I' R' L' (sz + 1) H1 locs := by
  obtain ⟨hz, hP, hS, hB⟩ := hW
  refine ⟨z1, ?_, ⟨Nat.le_trans hS.1 (by omega), fun x h1 h2 => (o1 x (by have := hS.1; omega)).trans (hS.2.1 x h1 h2), hS.2.2⟩, fun a ha => ?_⟩
  · exact hP.step (a := sz) hK hN hI hR hL (fun b e hb he => o1 b (by have := (hP b e he).lt; omega)) ha
  · by_cases h : a = sz
    · subst h; exact ⟨hA _ (by have := hS.1; omega), Nat.lt_succ_self _⟩
    · rw [hK a h] at ha
      exact ⟨(hB a ha).1, Nat.lt_succ_of_lt (hB a ha).2⟩
theorem wm_newI (C : Cx p s m args meth c A G own cc nL) {n : Int32} (n' : Nat) (hw : Cond.arrayClass .int ∈ gw) (hn : ¬ n < 0) (hN : n.toNatClampNeg = n') (hbig : n' * 4 ≤ 536870912) (hcells : cells + 1 ≤ Rm.cells) (hslots : slots + n' ≤ Rm.slots) (hdg : decode cc pc = .ok (.newarray .int, 2))
    (kk : Wm p l e Rm s m args below meth c Q A G nL (pc + 2) lv (.ref sz :: st) (va_up K sz 20) (va_up N sz n') (va_up I sz (fun _ => 0)) R L (sz + 1) (cells + 1) (slots + n')) : Wm p l e Rm s m args below meth c Q A G nL pc lv (.int n :: st) K N I R L sz cells slots := by
  intro H locs ls hW hl hc
  obtain ⟨hx, hb, hml, hown, hts, hKK, hA, hlk⟩ := C
  refine va_newaK (atype := .int) hx hb (hts _ hw) rfl hdg rfl hn hN hbig hcells hslots hW.1 fun H1 cA e1 z1 o1 hAr hNm => ?_
  have hcA : cA = G.2 0 := Option.some.inj (hNm.symm.trans (hKK.2 0 _ rfl).2)
  subst hcA
  refine kk H1 _ ls (hW.push hA z1 o1 (fun b hb => va_up_ne _ _ hb) (fun b hb => va_up_ne _ _ hb) (fun b hb => va_up_ne _ _ hb) (fun _ _ => rfl) (fun _ _ => rfl) (fun e he => ?_)) hl hc
  rw [cellO_i (va_up_self _ _ _), va_up_self, va_up_self] at he
  cases he
  exact e1
theorem wm_newZ (C : Cx p s m args meth c A G own cc nL) {n : Int32} (n' : Nat) (hw : Cond.arrayClass .boolean ∈ gw) (hn : ¬ n < 0) (hN : n.toNatClampNeg = n') (hbig : n' * 1 ≤ 536870912) (hcells : cells + 1 ≤ Rm.cells) (hslots : slots + n' ≤ Rm.slots) (hdg : decode cc pc = .ok (.newarray .boolean, 2))
    (kk : Wm p l e Rm s m args below meth c Q A G nL (pc + 2) lv (.ref sz :: st) (va_up K sz 21) (va_up N sz n') (va_up I sz (fun _ => 0)) R L (sz + 1) (cells + 1) (slots + n')) : Wm p l e Rm s m args below meth c Q A G nL pc lv (.int n :: st) K N I R L sz cells slots := by
  intro H locs ls hW hl hc
  obtain ⟨hx, hb, hml, hown, hts, hKK, hA, hlk⟩ := C
  refine va_newaK (atype := .boolean) hx hb (hts _ hw) rfl hdg rfl hn hN hbig hcells hslots hW.1 fun H1 cA e1 z1 o1 hAr hNm => ?_
  have hcA : cA = G.2 1 := Option.some.inj (hNm.symm.trans (hKK.2 1 _ rfl).2)
  subst hcA
  refine kk H1 _ ls (hW.push hA z1 o1 (fun b hb => va_up_ne _ _ hb) (fun b hb => va_up_ne _ _ hb) (fun b hb => va_up_ne _ _ hb) (fun _ _ => rfl) (fun _ _ => rfl) (fun e he => ?_)) hl hc
  rw [cellO_z (va_up_self _ _ _), va_up_self, va_up_self] at he
  cases he
  exact e1
theorem wm_newL (C : Cx p s m args meth c A G own cc nL) {n : Int32} (n' : Nat) (hw : Cond.arrayClass .long ∈ gw) (hn : ¬ n < 0) (hN : n.toNatClampNeg = n') (hbig : n' * 8 ≤ 536870912) (hcells : cells + 1 ≤ Rm.cells) (hslots : slots + n' ≤ Rm.slots) (hdg : decode cc pc = .ok (.newarray .long, 2))
    (kk : Wm p l e Rm s m args below meth c Q A G nL (pc + 2) lv (.ref sz :: st) (va_up K sz 22) (va_up N sz n') I R (va_up L sz (fun _ => 0)) (sz + 1) (cells + 1) (slots + n')) : Wm p l e Rm s m args below meth c Q A G nL pc lv (.int n :: st) K N I R L sz cells slots := by
  intro H locs ls hW hl hc
  obtain ⟨hx, hb, hml, hown, hts, hKK, hA, hlk⟩ := C
  refine va_newaK (atype := .long) hx hb (hts _ hw) rfl hdg rfl hn hN hbig hcells hslots hW.1 fun H1 cA e1 z1 o1 hAr hNm => ?_
  have hcA : cA = G.2 2 := Option.some.inj (hNm.symm.trans (hKK.2 2 _ rfl).2)
  subst hcA
  refine kk H1 _ ls (hW.push hA z1 o1 (fun b hb => va_up_ne _ _ hb) (fun b hb => va_up_ne _ _ hb) (fun _ _ => rfl) (fun _ _ => rfl) (fun b hb => va_up_ne _ _ hb) (fun e he => ?_)) hl hc
  rw [cellO_l (va_up_self _ _ _), va_up_self, va_up_self] at he
  cases he
  exact e1
theorem wm_newQ (C : Cx p s m args meth c A G own cc nL) {t index : Nat} {n : Int32} (n' : Nat) (h0 : 2 < t) (h1 : t < 6) (hw : Cond.classLink own index (qn t) ∈ gw) (hn : ¬ n < 0) (hN : n.toNatClampNeg = n') (hbig : n' * 4 ≤ 536870912) (hcells : cells + 1 ≤ Rm.cells) (hslots : slots + n' ≤ Rm.slots) (hdg : decode cc pc = .ok (.anewarray index, 3))
    (kk : Wm p l e Rm s m args below meth c Q A G nL (pc + 3) lv (.ref sz :: st) (va_up K sz (20 + t)) (va_up N sz n') I (va_up R sz (fun _ => none)) L (sz + 1) (cells + 1) (slots + n')) : Wm p l e Rm s m args below meth c Q A G nL pc lv (.int n :: st) K N I R L sz cells slots := by
  intro H locs ls hW hl hc
  obtain ⟨hx, hb, hml, hown, hts, hKK, hA, hlk⟩ := C
  subst hN
  have hao : va_AO (qn t) s := by
    rcases (show t = 3 ∨ t = 4 ∨ t = 5 by omega) with rfl | rfl | rfl
    · exact hlk.2.2.1
    · exact hlk.2.2.2.1
    · exact hlk.2.2.2.2
  refine W.anew hx hb hown (hts _ hw) (va_AO.use hao) rfl hdg rfl hn hbig hcells hslots fun cA kA comp f1 f2 f3 f4 => ?_
  obtain ⟨-, -, -, -, -, f5⟩ := (hKK.2 t _ (tys_q h0 h1)).2
  have hcA : cA = G.2 t := Option.some.inj (f1.symm.trans f5)
  subst hcA
  have hz := hW.1
  subst hz
  refine kk _ _ ls (hW.push hA (by rw [Array.size_push]) (fun q hq => by rw [Array.getElem?_push, if_neg (Nat.ne_of_lt hq)]) (fun b hb => va_up_ne _ _ hb) (fun b hb => va_up_ne _ _ hb) (fun _ _ => rfl) (fun b hb => va_up_ne _ _ hb) (fun _ _ => rfl) (fun e he => ?_)) hl hc
  rw [cellO_q (t := t) (va_up_self _ _ _) h0 h1, va_up_self, va_up_self] at he
  cases he
  show _ = some (vp_cell _ _)
  rw [Array.getElem?_push_size, vp_cell_q, ← arrV_new]
  rfl
end ARR
end
section
/-! contracts over the memory, calls, returns -/
abbrev PT : Type := Option Value → TK → TK → TI → TR → TL → Nat → Prop
def AM (K : TK) (sz : Nat) : Nat → Prop := fun q => K q ≠ 0 ∨ sz ≤ q
def PrM (G : Gx) (av : List Value) (K N : TK) (I : TI) (R : TR) (L : TL) (sz : Nat) : Array Value → State → Prop := fun v U => v = av.toArray ∧ U.heap.size = sz ∧ Rp G K N I R L U.heap ∧ va_K G.1 vwCl (tysG G) U ∧ (∀ a, K a ≠ 0 → a < sz) ∧ NW U
def PoM (G : Gx) (K : TK) (sz : Nat) (Φ : PT) : Array Value → State → Outcome → State → Prop := fun _ st oc t =>
  (∃ (v : Option Value) (K' N' : TK) (I' : TI) (R' : TR) (L' : TL) (sz' : Nat), oc = .returned v ∧ Φ v K' N' I' R' L' sz' ∧ t.heap.size = sz' ∧ Rp G K' N' I' R' L' t.heap ∧ va_K G.1 vwCl (tysG G) t ∧ ∀ a, K' a ≠ 0 → a < sz' ∧ AM K sz a) ∧ va_F (AM K sz) st t
def rmD (d mc ms : Nat) : Room := { frames := d, cells := mc, slots := ms, locals := 40 * d }
def tsM (y : MethodName) (cc : ByteArray) (nL : Nat) (ret : Option FieldType) : List Cond := Cond.code y cc nL ret :: gw
/-- the contract of a method: from a memory, its end's memory and answer meet Φ -/
def MetM (l : Launch) (G : Gx) (y : MethodName) (cc : ByteArray) (nL : Nat) (ret : Option FieldType) (d mc ms : Nat) (av : List Value) (K N : TK) (I : TI) (R : TR) (L : TL) (sz : Nat) (Φ : PT) : Prop :=
  Met l y (tsM y cc nL ret) (rmD d mc ms) (PrM G av K N I R L sz) (PoM G K sz Φ) mc ms (AM K sz)
def la : Nat → List Value → List (Nat × Value)
  | _, [] => []
  | i, v :: vs => (i, v) :: la (i + 1) vs
theorem la_eq : ∀ (av : List Value) (i : Nat), (∀ v ∈ av, v.category = 1) → lv_args i av = la i av
  | [], _, _ => rfl
  | v :: vs, i, h => by
    have h1 : v.category = 1 := h v List.mem_cons_self
    simp only [lv_args, la, h1]
    rw [la_eq vs _ (fun w hw => h w (List.mem_cons_of_mem _ hw))]
    rfl
theorem la_sl : ∀ (av : List Value), (∀ v ∈ av, v.category = 1) → (lg_sl av).length = av.length
  | [], _ => rfl
  | v :: vs, h => by
    have h1 : v.category = 1 := h v List.mem_cons_self
    have h2 := la_sl vs (fun w hw => h w (List.mem_cons_of_mem _ hw))
    unfold lg_sl at h2 ⊢
    rw [List.flatMap_cons, List.length_append, h2]
    simp [h1, Nat.add_comm]
theorem la_cat : ∀ (av : List Value) (i : Nat), (∀ v ∈ av, v.category = 1) → ∀ q ∈ la i av, q.2.category = 1
  | [], _, _, q, hq => by simp [la] at hq
  | v :: vs, i, h, q, hq => by
    rcases List.mem_cons.mp hq with h1 | h1
    · rw [h1]; exact h v List.mem_cons_self
    · exact la_cat vs _ (fun w hw => h w (List.mem_cons_of_mem _ hw)) q h1
theorem MetM.of {l : Launch} {G : Gx} {y : MethodName} {cc : ByteArray} {nL : Nat} {ret : Option FieldType} {d mc ms : Nat} {av : List Value} {K N : TK} {I : TI} {R : TR} {L : TL} {sz : Nat} {Φ : PT} {own : String} (hy : plainName y.cls = true) (hown : y.cls = own) (hcat : ∀ v ∈ av, v.category = 1) (hlen : av.length ≤ nL)
    (body : ∀ (p : Program) (e : Env) (s : State) (m : MethodId) (args : Array Value) (below : List Frame) (meth : Method) (c : Code), Cx p s m args meth c (AM K sz) G own cc nL → meth.sig.returnType = ret → meth.name = y.name →
      Wm p l e (rmD d mc ms) s m args below meth c (MQ below (PoM G K sz Φ) args s mc ms (AM K sz)) (AM K sz) G nL 0 (la 0 av) [] K N I R L sz 0 0) : MetM l G y cc nL ret d mc ms av K N I R L sz Φ := by
  refine Met.ofW (cc := cc) (maxL := nL) (ret := ret) hy rfl ?_
  intro p e s m args below meth c s₁ B hml hv
  obtain ⟨rfl, hsz, hP, hK, hB, hNW⟩ := hv
  have hts := atoms_spec (ws := tsM y cc nL ret) B.pre
  have hfc : s.vm.findClass own = some m.cls := by rw [← hown]; exact findClass_of_methodNamed B.named
  have C : Cx p s m av.toArray meth c (AM K sz) G own cc nL := ⟨B.exec, B.bytes, hml, hfc, fun w hw => hts w (List.mem_cons_of_mem _ hw), hK, fun q h => Or.inr (by omega), B.notSynchronized, hNW⟩
  have hn := (name_of_methodNamed B.named B.method).1
  have hl := lv_entry av (n := nL) (by rw [la_sl av hcat]; exact hlen)
  rw [la_eq av 0 hcat] at hl
  rw [lg_entry_eq]
  exact body p e s m _ below meth c C B.returns hn s.heap [] _ ⟨hsz, hP, va_S.rf, fun a h => ⟨Or.inl h, hB a h⟩⟩ hl (la_cat av 0 hcat)
section RET
variable {p : Program} {l : Launch} {e : Env} {Rm : Room} {s : State} {m : MethodId} {args : Array Value} {below : List Frame} {meth : Method} {c : Code} {Q : State → Prop} {A : Nat → Prop} {G : Gx} {own : String} {cc : ByteArray} {nL pc : Nat} {lv : List (Nat × Value)} {st : List Value} {K N : TK} {I : TI} {R : TR} {L : TL} {sz cells slots : Nat}
  {K0 : TK} {sz0 mc ms : Nat} {Φ : PT}
theorem po_of (C : Cx p s m args meth c (AM K0 sz0) G own cc nL) {H : Heap} {locs : List Loc} {v : Option Value} (hW : Wd G (AM K0 sz0) s K N I R L sz H locs) (hΦ : Φ v K N I R L sz) (t : State) (ht : t.heap = H) (hwm : s.WarmedH t.vm) : PoM G K0 sz0 Φ args s (.returned v) t :=
  ⟨⟨v, K, N, I, R, L, sz, rfl, hΦ, by rw [ht]; exact hW.1, by rw [ht]; exact hW.2.1, va_K.moved hwm.alike C.2.2.2.2.2.1, fun a ha => ⟨(hW.2.2.2 a ha).2, (hW.2.2.2 a ha).1⟩⟩, hW.2.2.1.F ht⟩
theorem wm_iret (C : Cx p s m args meth c (AM K0 sz0) G own cc nL) {v : Int32} {ty : FieldType} (hr : meth.sig.returnType = some ty) (hn : narrow ty (.int v) = .int v) (hc : cells ≤ mc) (hs : slots ≤ ms) (hΦ : Φ (some (.int v)) K N I R L sz) (hdg : decode cc pc = .ok (.ireturn, 1)) :
    Wm p l e Rm s m args below meth c (MQ below (PoM G K0 sz0 Φ) args s mc ms (AM K0 sz0)) (AM K0 sz0) G nL pc lv [.int v] K N I R L sz cells slots := by
  intro H locs ls hW hl hcat
  refine W.widen hc hs ?_
  exact W.zret C.1 C.2.1 hr hn (po_of C hW hΦ) hW.2.2.1.2.2 hdg C.2.2.2.2.2.2.2.1
theorem wm_vret (C : Cx p s m args meth c (AM K0 sz0) G own cc nL) (hr : meth.sig.returnType = none) (hc : cells ≤ mc) (hs : slots ≤ ms) (hΦ : Φ none K N I R L sz) (hdg : decode cc pc = .ok (.return_, 1)) :
    Wm p l e Rm s m args below meth c (MQ below (PoM G K0 sz0 Φ) args s mc ms (AM K0 sz0)) (AM K0 sz0) G nL pc lv [] K N I R L sz cells slots := by
  intro H locs ls hW hl hcat
  refine W.widen hc hs ?_
  exact W.vret C.1 C.2.1 hr (po_of C hW hΦ) hW.2.2.1.2.2 hdg C.2.2.2.2.2.2.2.1
theorem wm_aret (C : Cx p s m args meth c (AM K0 sz0) G own cc nL) {r : Option Nat} {n : String} (hr : meth.sig.returnType = some (.object n)) (hc : cells ≤ mc) (hs : slots ≤ ms) (hΦ : Φ (some (va_rf r)) K N I R L sz) (hdg : decode cc pc = .ok (.areturn, 1)) :
    Wm p l e Rm s m args below meth c (MQ below (PoM G K0 sz0 Φ) args s mc ms (AM K0 sz0)) (AM K0 sz0) G nL pc lv [va_rf r] K N I R L sz cells slots := by
  intro H locs ls hW hl hcat
  refine W.widen hc hs ?_
  exact W.aret C.1 C.2.1 hr (Or.inl ⟨n, rfl⟩) (by cases r with | none => exact Or.inl rfl | some a => exact Or.inr ⟨a, rfl⟩) (po_of C hW hΦ) hW.2.2.1.2.2 hdg C.2.2.2.2.2.2.2.1
/-- a call has run: on with what it left -/
theorem wm_ran (C : Cx p s m args meth c A G own cc nL) {st0 rest : List Value} {a : Array Value} (hr : ∀ (H : Heap) (locs : List Loc) (ls : Array Slot), Wd G A s K N I R L sz H locs → lv_has ls nL lv → va_Run p l e Rm s m args below meth c H locs cells slots mc ms (F0 m pc ls st0) rest (PoM G K sz Φ a) (AM K sz))
    (kk : ∀ (v : Option Value) (K' N' : TK) (I' : TI) (R' : TR) (L' : TL) (sz' : Nat), Φ v K' N' I' R' L' sz' → Wm p l e Rm s m args below meth c Q A G nL (pc + 3) lv (v.toList ++ rest) K' N' I' R' L' sz' (cells + mc) (slots + ms)) : Wm p l e Rm s m args below meth c Q A G nL pc lv st0 K N I R L sz cells slots := by
  intro H locs ls hW hl hc T hT X
  obtain ⟨v, st₀, t, T', Lc, h0, X', hL, e1, e2, ⟨⟨v', K', N', I', R', L', sz', hv, hΦ, hz, hP, hKK, hB⟩, hF⟩, stp⟩ := hr H locs ls hW hl T hT X
  cases hv
  obtain ⟨hz0, hP0, hS, hB0⟩ := hW
  have hA := C.2.2.2.2.2.2.1
  have hfree : ∀ q, AM K sz q → A q := fun q hq => hq.elim (fun h => (hB0 q h).1) (fun h => hA q (by have := hS.1; omega))
  rw [show va_F (AM K sz) st₀ t = (st₀.heap.size ≤ t.heap.size ∧ ∀ q : Nat, q < st₀.heap.size → ¬ AM K sz q → t.heap[q]? = st₀.heap[q]?) from rfl, h0] at hF
  obtain ⟨t2, a1, b1⟩ := kk v K' N' I' R' L' sz' hΦ T'.heap (locs ++ Lc) ls ⟨by rw [e1]; exact hz, by rw [e1]; exact hP, ⟨by rw [e1]; exact Nat.le_trans hS.1 hF.1, fun q h1 h2 => by
      rw [e1, hF.2 q (Nat.lt_of_lt_of_le h1 hS.1) (fun z => h2 (hfree q z))]
      exact hS.2.1 q h1 h2, fun q hq => by
      rcases List.mem_append.mp hq with h | h
      · exact hS.2.2 q h
      · exact hfree _ (hL q h)⟩, fun a ha => ⟨hfree a (hB a ha).2, (hB a ha).1⟩⟩ hl hc T' rfl X'
  exact ⟨t2, stp t2 a1, b1⟩
theorem PrM.blind {av : List Value} : FrameBlind (PrM G av K N I R L sz) := fun a U g mk q => by
  obtain ⟨q0, q1, qP, qK, qD, qN⟩ := q
  exact ⟨q0, q1, qP, va_K.moved (u := U) (U := U.calling g mk a) (Vm.Alike.refl U.vm) qK, qD, NW.same (u := U) (U := U.calling g mk a) rfl qN⟩
theorem PrM.at (C : Cx p s m args meth c A G own cc nL) {H : Heap} {locs : List Loc} (hW : Wd G A s K N I R L sz H locs) (av : List Value) : ∀ U : State, U.heap = H → s.WarmedH U.vm → PrM G av K N I R L sz av.toArray U :=
  fun U hU hwm => ⟨rfl, by rw [hU]; exact hW.1, by rw [hU]; exact hW.2.1, va_K.moved hwm.alike C.2.2.2.2.2.1, fun a ha => (hW.2.2.2 a ha).2, NW.warm hwm C.2.2.2.2.2.2.2.2⟩
theorem gw_gi {ws : List Cond} (h : ∀ w ∈ ws, w ∈ gw) : GoodIn gw ws := fun w hw => ⟨h w hw, good_of_word (gw_good (h w hw))⟩
/-- a virtual call's words -/
def VQ (own : String) (index : Nat) (y : MethodName) (bytes : ByteArray) (maxL : Nat) (ret : Option FieldType) (ci n : Nat) : Prop :=
  (Cond.methodLink own index y ∈ gw ∧ Cond.instanceMethod y ∈ gw ∧ Cond.selects y.cls y y ∈ gw ∧ Cond.initialized y.cls ∈ gw ∧ Cond.code y bytes maxL ret ∈ gw) ∧ (∃ r, vwCl[ci]? = some r ∧ r.1 = y.cls) ∧ 0 < ci ∧ ci < 8 ∧ y.cls ≠ "java/lang/invoke/MethodHandle" ∧ y.cls ≠ "java/lang/invoke/VarHandle" ∧ (parseMethodDescriptor y.desc).map (fun d => d.parameters.length) = some n ∧ maxL ≤ 21
theorem wm_callV (C : Cx p s m args meth c A G own cc nL) {index : Nat} {y : MethodName} {bytes : ByteArray} {maxL : Nat} {ret : Option FieldType} {ci n d b : Nat} {As rest : List Value} (V : VQ own index y bytes maxL ret ci n) (hM : MetM l G y bytes maxL ret d mc ms (.ref b :: As) K N I R L sz Φ) (hb0 : K b = 10 + ci)
    (hroom : d + 1 ≤ Rm.frames ∧ 40 * (d + 1) ≤ Rm.locals) (hn : As.length = n) (hcat : (rest.map fun v => v.category).sum ≤ 8) (hf : cells + mc ≤ Rm.cells ∧ slots + ms ≤ Rm.slots) (hdg : decode cc pc = .ok (.invokevirtual index, 3))
    (kk : ∀ (v : Option Value) (K' N' : TK) (I' : TI) (R' : TR) (L' : TL) (sz' : Nat), Φ v K' N' I' R' L' sz' → Wm p l e Rm s m args below meth c Q A G nL (pc + 3) lv (v.toList ++ rest) K' N' I' R' L' sz' (cells + mc) (slots + ms)) : Wm p l e Rm s m args below meth c Q A G nL pc lv (As.reverse ++ .ref b :: rest) K N I R L sz cells slots := by
  refine wm_ran C (a := (Value.ref b :: As).toArray) (fun H locs ls hW hl => ?_) kk
  obtain ⟨⟨w1, w2, w3, w4, w5⟩, ⟨r, hr, hr1⟩, h0, h1, y1, y2, y3, y4⟩ := V
  have hws : ∀ w ∈ wsV own index y.cls y (tsM y bytes maxL ret), w ∈ gw := fun w hw => by
    rcases List.mem_append.mp hw with h | h
    · simp only [List.mem_cons, List.mem_nil_iff, or_false] at h
      rcases h with rfl | rfl | rfl | rfl <;> assumption
    · rcases List.mem_cons.mp h with rfl | h
      · exact w5
      · exact h
  refine va_runV (Ts := gw) ⟨C.1, C.2.1, C.2.2.1, C.2.2.2.1, C.2.2.2.2.1⟩ hM (cwV n C.2.2.2.2.1 (gw_gi hws) rfl rfl rfl ⟨rfl, y1, y2, y3⟩ ⟨hroom.1, by show 8 + (maxL + 11) + 40 * d ≤ _; have := hroom.2; omega⟩) ⟨PrM.blind, ?_, PrM.at C hW (.ref b :: As)⟩ rfl hn hl.1 rfl (lv_room hcat) hdg hf
  obtain ⟨cell, g1, g2, g3⟩ := va_recv C.2.2.2.2.2.1 (va_P1 (hW.2.1 b _ (cellO_o hb0 h0 h1))) hr (q0 := 0) rfl
  exact ⟨cell, g1, g2, by rw [← hr1]; exact g3⟩
/-- a static call's words -/
def SQ (own : String) (index : Nat) (y : MethodName) (bytes : ByteArray) (maxL : Nat) (ret : Option FieldType) (n : Nat) : Prop :=
  (Cond.methodLink own index y ∈ gw ∧ Cond.static y ∈ gw ∧ Cond.initialized own ∈ gw ∧ Cond.code y bytes maxL ret ∈ gw) ∧ y.cls = own ∧ y.cls ≠ "java/lang/invoke/MethodHandle" ∧ y.cls ≠ "java/lang/invoke/VarHandle" ∧ (parseMethodDescriptor y.desc).map (fun d => d.parameters.length) = some n ∧ maxL ≤ 21
theorem wm_callS (C : Cx p s m args meth c A G own cc nL) {index : Nat} {y : MethodName} {bytes : ByteArray} {maxL : Nat} {ret : Option FieldType} {n d : Nat} {As rest : List Value} (V : SQ own index y bytes maxL ret n) (hM : MetM l G y bytes maxL ret d mc ms As K N I R L sz Φ)
    (hroom : d + 1 ≤ Rm.frames ∧ 40 * (d + 1) ≤ Rm.locals) (hn : As.length = n) (hcat : (rest.map fun v => v.category).sum ≤ 8) (hf : cells + mc ≤ Rm.cells ∧ slots + ms ≤ Rm.slots) (hdg : decode cc pc = .ok (.invokestatic index, 3))
    (kk : ∀ (v : Option Value) (K' N' : TK) (I' : TI) (R' : TR) (L' : TL) (sz' : Nat), Φ v K' N' I' R' L' sz' → Wm p l e Rm s m args below meth c Q A G nL (pc + 3) lv (v.toList ++ rest) K' N' I' R' L' sz' (cells + mc) (slots + ms)) : Wm p l e Rm s m args below meth c Q A G nL pc lv (As.reverse ++ rest) K N I R L sz cells slots := by
  refine wm_ran C (a := As.toArray) (fun H locs ls hW hl => ?_) kk
  obtain ⟨⟨w1, w2, w3, w4⟩, y0, y1, y2, y3, y4⟩ := V
  have hws : ∀ w ∈ wsS own index y (tsM y bytes maxL ret), w ∈ gw := fun w hw => by
    rcases List.mem_append.mp hw with h | h
    · simp only [List.mem_cons, List.mem_nil_iff, or_false] at h
      rcases h with rfl | rfl | rfl <;> assumption
    · rcases List.mem_cons.mp h with rfl | h
      · exact w4
      · exact h
  exact va_runS (Ts := gw) ⟨C.1, C.2.1, C.2.2.1, C.2.2.2.1, C.2.2.2.2.1⟩ hM (cwS n C.2.2.2.2.1 (gw_gi hws) rfl rfl rfl ⟨y0, y1, y2, y3⟩ ⟨hroom.1, by show 8 + (maxL + 11) + 40 * d ≤ _; have := hroom.2; omega⟩) ⟨PrM.blind, PrM.at C hW As⟩ rfl hn hl.1 rfl (lv_room hcat) hdg hf
/-- a constructor's words -/
def IQ (own : String) (index : Nat) (y : MethodName) (bytes : ByteArray) (maxL n : Nat) : Prop :=
  (Cond.methodLink own index y ∈ gw ∧ Cond.instanceMethod y ∈ gw ∧ Cond.initialized y.cls ∈ gw ∧ Cond.code y bytes maxL none ∈ gw) ∧ y.name = "<init>" ∧ y.cls ≠ "java/lang/invoke/MethodHandle" ∧ y.cls ≠ "java/lang/invoke/VarHandle" ∧ (parseMethodDescriptor y.desc).map (fun d => d.parameters.length) = some n ∧ maxL ≤ 21
theorem ts_gw {y : MethodName} {bytes : ByteArray} {maxL : Nat} {ret : Option FieldType} (w : Cond.code y bytes maxL ret ∈ gw) : ∀ w ∈ tsM y bytes maxL ret, w ∈ gw := fun x hx => by
  rcases List.mem_cons.mp hx with rfl | h
  · exact w
  · exact h
theorem wm_callI (C : Cx p s m args meth c A G own cc nL) {index : Nat} {y : MethodName} {bytes : ByteArray} {maxL : Nat} {n d b : Nat} {As rest : List Value} (V : IQ own index y bytes maxL n) (hM : MetM l G y bytes maxL none d mc ms (.ref b :: As) K N I R L sz Φ)
    (hroom : d + 1 ≤ Rm.frames ∧ 40 * (d + 1) ≤ Rm.locals) (hn : As.length = n) (hcat : (rest.map fun v => v.category).sum ≤ 8) (hf : cells + mc ≤ Rm.cells ∧ slots + ms ≤ Rm.slots) (hdg : decode cc pc = .ok (.invokespecial index, 3))
    (kk : ∀ (v : Option Value) (K' N' : TK) (I' : TI) (R' : TR) (L' : TL) (sz' : Nat), Φ v K' N' I' R' L' sz' → Wm p l e Rm s m args below meth c Q A G nL (pc + 3) lv (v.toList ++ rest) K' N' I' R' L' sz' (cells + mc) (slots + ms)) : Wm p l e Rm s m args below meth c Q A G nL pc lv (As.reverse ++ .ref b :: rest) K N I R L sz cells slots := by
  refine wm_ran C (a := (Value.ref b :: As).toArray) (fun H locs ls hW hl => ?_) kk
  obtain ⟨⟨w1, w2, w3, w4⟩, y0, y1, y2, y3, y4⟩ := V
  have hts := C.2.2.2.2.1
  exact va_runI (Ts := gw) ⟨C.1, C.2.1, C.2.2.1, C.2.2.2.1, hts⟩ hM (cwI n hts (gw_gi (ts_gw w4)) rfl rfl rfl (hts _ w3) (hts _ w1) (hts _ w2) y0 ⟨y1, y2, y3⟩ ⟨hroom.1, by show 8 + (maxL + 11) + 40 * d ≤ _; have := hroom.2; omega⟩) ⟨PrM.blind, PrM.at C hW (.ref b :: As)⟩ rfl hn hl.1 rfl (lv_room hcat) hdg hf
/-- a nest mate's private constructor -/
def JQ (own : String) (index : Nat) (y : MethodName) (bytes : ByteArray) (maxL n : Nat) (host : String) : Prop :=
  (Cond.methodLinkNest own index y host ∈ nws ∧ Cond.instanceMethod y ∈ gw ∧ Cond.initialized y.cls ∈ gw ∧ Cond.code y bytes maxL none ∈ gw) ∧ y.name = "<init>" ∧ y.cls ≠ "java/lang/invoke/MethodHandle" ∧ y.cls ≠ "java/lang/invoke/VarHandle" ∧ (parseMethodDescriptor y.desc).map (fun d => d.parameters.length) = some n ∧ maxL ≤ 21
theorem wm_callJ (C : Cx p s m args meth c A G own cc nL) {index : Nat} {y : MethodName} {bytes : ByteArray} {maxL : Nat} {n d b : Nat} {host : String} {As rest : List Value} (V : JQ own index y bytes maxL n host) (hM : MetM l G y bytes maxL none d mc ms (.ref b :: As) K N I R L sz Φ)
    (hroom : d + 1 ≤ Rm.frames ∧ 40 * (d + 1) ≤ Rm.locals) (hn : As.length = n) (hcat : (rest.map fun v => v.category).sum ≤ 8) (hf : cells + mc ≤ Rm.cells ∧ slots + ms ≤ Rm.slots) (hdg : decode cc pc = .ok (.invokespecial index, 3))
    (kk : ∀ (v : Option Value) (K' N' : TK) (I' : TI) (R' : TR) (L' : TL) (sz' : Nat), Φ v K' N' I' R' L' sz' → Wm p l e Rm s m args below meth c Q A G nL (pc + 3) lv (v.toList ++ rest) K' N' I' R' L' sz' (cells + mc) (slots + ms)) : Wm p l e Rm s m args below meth c Q A G nL pc lv (As.reverse ++ .ref b :: rest) K N I R L sz cells slots := by
  refine wm_ran C (a := (Value.ref b :: As).toArray) (fun H locs ls hW hl => ?_) kk
  obtain ⟨⟨w1, w2, w3, w4⟩, y0, y1, y2, y3, y4⟩ := V
  have hts := C.2.2.2.2.1
  exact va_runIN (Ts := gw) ⟨C.1, C.2.1, C.2.2.1, C.2.2.2.1, hts⟩ hM ⟨va_cnB n hts (gw_gi (ts_gw w4)) rfl rfl rfl (C.2.2.2.2.2.2.2.2.1 _ w1) (hts _ w3) ⟨y1, y2, y3⟩ ⟨hroom.1, by show 8 + (maxL + 11) + 40 * d ≤ _; have := hroom.2; omega⟩, y0, hts _ w2⟩ ⟨PrM.blind, PrM.at C hW (.ref b :: As)⟩ rfl hn hl.1 rfl (lv_room hcat) hdg hf
/-- Object's own constructor -/
def OQ (own : String) (index : Nat) : Prop := Cond.methodLink own index Lib.objectInit ∈ gw ∧ Cond.instanceMethod Lib.objectInit ∈ gw ∧ Cond.code Lib.objectInit ⟨#[0xb1]⟩ 1 none ∈ gw
theorem wm_objInit (C : Cx p s m args meth c A G own cc nL) {index a : Nat} (V : OQ own index) (hroom : 1 ≤ Rm.frames ∧ 40 ≤ Rm.locals) (hcat : (st.map fun v => v.category).sum ≤ 8) (hdg : decode cc pc = .ok (.invokespecial index, 3))
    (kk : Wm p l e Rm s m args below meth c Q A G nL (pc + 3) lv st K N I R L sz cells slots) : Wm p l e Rm s m args below meth c Q A G nL pc lv (.ref a :: st) K N I R L sz cells slots := by
  intro H locs ls hW hl hc
  have hts := C.2.2.2.2.1
  have h8 := lv_room (m := m) (pc := pc) (ls := ls) (rest := .ref a :: st) hcat
  exact W.objInit C.1 C.2.1 C.2.2.2.1 (hts _ V.1) (hts _ V.2.1) (hts _ V.2.2) rfl (by rw [C.2.2.1]; exact hl.1) rfl hdg hroom.1 (by have := hroom.2; omega) (kk H locs ls hW hl hc)
end RET
end
section
theorem iaX0 : ∀ w ∈ u_ws RX0 TX0 4, w ∈ lw_tbl := by decide +kernel
theorem ibX0 : ∀ w ∈ u_ws RX0 TX0 4, goodWord w = true := by decide +kernel
theorem igX0 : ∀ w ∈ u_ws RX0 TX0 4, w ∈ gw := fun w h => gw_of (iaX0 w h) (ibX0 w h)
theorem iaX1 : ∀ w ∈ u_ws RX1 TX1 7, w ∈ lw_tbl := by decide +kernel
theorem ibX1 : ∀ w ∈ u_ws RX1 TX1 7, goodWord w = true := by decide +kernel
theorem igX1 : ∀ w ∈ u_ws RX1 TX1 7, w ∈ gw := fun w h => gw_of (iaX1 w h) (ibX1 w h)
theorem iaX2 : ∀ w ∈ u_ws RX2 TX2 6, w ∈ lw_tbl := by decide +kernel
theorem ibX2 : ∀ w ∈ u_ws RX2 TX2 6, goodWord w = true := by decide +kernel
theorem igX2 : ∀ w ∈ u_ws RX2 TX2 6, w ∈ gw := fun w h => gw_of (iaX2 w h) (ibX2 w h)
theorem iaX3 : ∀ w ∈ u_ws RX3 TX3 5, w ∈ lw_tbl := by decide +kernel
theorem ibX3 : ∀ w ∈ u_ws RX3 TX3 5, goodWord w = true := by decide +kernel
theorem igX3 : ∀ w ∈ u_ws RX3 TX3 5, w ∈ gw := fun w h => gw_of (iaX3 w h) (ibX3 w h)
theorem iaX4 : ∀ w ∈ u_ws RX4 TX4 2, w ∈ lw_tbl := by decide +kernel
theorem ibX4 : ∀ w ∈ u_ws RX4 TX4 2, goodWord w = true := by decide +kernel
theorem igX4 : ∀ w ∈ u_ws RX4 TX4 2, w ∈ gw := fun w h => gw_of (iaX4 w h) (ibX4 w h)
theorem iaX5 : ∀ w ∈ u_ws RX5 TX5 13, w ∈ lw_tbl := by decide +kernel
theorem ibX5 : ∀ w ∈ u_ws RX5 TX5 13, goodWord w = true := by decide +kernel
theorem igX5 : ∀ w ∈ u_ws RX5 TX5 13, w ∈ gw := fun w h => gw_of (iaX5 w h) (ibX5 w h)
theorem iaX6 : ∀ w ∈ u_ws RX6 TX6 34, w ∈ lw_tbl := by decide +kernel
theorem ibX6 : ∀ w ∈ u_ws RX6 TX6 34, goodWord w = true := by decide +kernel
theorem igX6 : ∀ w ∈ u_ws RX6 TX6 34, w ∈ gw := fun w h => gw_of (iaX6 w h) (ibX6 w h)
theorem wd_0 : Cond.methodLink RX0 1 Lib.objectInit ∈ gw := gw_of (w := Cond.methodLink RX0 1 Lib.objectInit) (by decide +kernel) (by decide +kernel)
theorem wd_1 : Cond.instanceMethod Lib.objectInit ∈ gw := gw_of (w := Cond.instanceMethod Lib.objectInit) (by decide +kernel) (by decide +kernel)
theorem wd_2 : Cond.code Lib.objectInit ⟨#[0xb1]⟩ 1 none ∈ gw := gw_of (w := Cond.code Lib.objectInit ⟨#[0xb1]⟩ 1 none) (by decide +kernel) (by decide +kernel)
theorem oqX0_1 : OQ RX0 1 := ⟨wd_0, wd_1, wd_2⟩
theorem wd_3 : Cond.classLink RX0 7 RX4 ∈ gw := gw_of (w := Cond.classLink RX0 7 RX4) (by decide +kernel) (by decide +kernel)
theorem wd_4 : Cond.instantiable RX4 2 ∈ gw := gw_of (w := Cond.instantiable RX4 2) (by decide +kernel) (by decide +kernel)
theorem wd_5 : Cond.initialized RX4 ∈ gw := gw_of (w := Cond.initialized RX4) (by decide +kernel) (by decide +kernel)
theorem nqX0_7 : NQ RX0 7 5 2 := ⟨by decide, by decide, RX4, TX4, tyX4, rfl, igX4, rfl, tyX4_ok, wd_3, wd_4, wd_5, by decide +kernel⟩
theorem wd_6 : Cond.code yX4_init cX4_init 1 none ∈ gw := gw_of (w := Cond.code yX4_init cX4_init 1 none) (by decide +kernel) (by decide +kernel)
theorem wd_7 : Cond.instanceMethod yX4_init ∈ gw := gw_of (w := Cond.instanceMethod yX4_init) (by decide +kernel) (by decide +kernel)
theorem jqX0_9 : JQ RX0 9 yX4_init cX4_init 1 0 RX5 := ⟨⟨by decide +kernel, wd_7, wd_5, wd_6⟩, rfl, by decide +kernel, by decide +kernel, by decide +kernel, by decide⟩
theorem wd_8 : Cond.fieldLink RX0 10 (TX0 2).1 (TX0 2).2.1 (TX0 2).2.2.1 ∈ gw := gw_of (w := Cond.fieldLink RX0 10 (TX0 2).1 (TX0 2).2.1 (TX0 2).2.2.1) (by decide +kernel) (by decide +kernel)
theorem fqX0_10 : FQ RX0 10 1 2 true (.object "CopyReplace$Words") true := ⟨by decide, by decide, RX0, TX0, 4, tyX0, rfl, igX0, by decide, rfl, wd_8, rfl, tyX0_ok, nmX0, rfl, by decide +kernel, rfl⟩
theorem wd_9 : Cond.fieldLink RX0 16 (TX0 3).1 (TX0 3).2.1 (TX0 3).2.2.1 ∈ gw := gw_of (w := Cond.fieldLink RX0 16 (TX0 3).1 (TX0 3).2.1 (TX0 3).2.2.1) (by decide +kernel) (by decide +kernel)
theorem fqX0_16 : FQ RX0 16 1 3 true (.object "CopyReplace$Words") true := ⟨by decide, by decide, RX0, TX0, 4, tyX0, rfl, igX0, by decide, rfl, wd_9, rfl, tyX0_ok, nmX0, rfl, by decide +kernel, rfl⟩
theorem wd_10 : Cond.fieldLink RX0 19 (TX0 0).1 (TX0 0).2.1 (TX0 0).2.2.1 ∈ gw := gw_of (w := Cond.fieldLink RX0 19 (TX0 0).1 (TX0 0).2.1 (TX0 0).2.2.1) (by decide +kernel) (by decide +kernel)
theorem fqX0_19 : FQ RX0 19 1 0 false (.int) true := ⟨by decide, by decide, RX0, TX0, 4, tyX0, rfl, igX0, by decide, rfl, wd_10, rfl, tyX0_ok, nmX0, rfl, by decide +kernel, rfl⟩
theorem wd_11 : Cond.fieldLink RX0 23 (TX0 1).1 (TX0 1).2.1 (TX0 1).2.2.1 ∈ gw := gw_of (w := Cond.fieldLink RX0 23 (TX0 1).1 (TX0 1).2.1 (TX0 1).2.2.1) (by decide +kernel) (by decide +kernel)
theorem fqX0_23 : FQ RX0 23 1 1 false (.int) true := ⟨by decide, by decide, RX0, TX0, 4, tyX0, rfl, igX0, by decide, rfl, wd_11, rfl, tyX0_ok, nmX0, rfl, by decide +kernel, rfl⟩
theorem wd_12 : Cond.methodLink RX1 3 Lib.objectInit ∈ gw := gw_of (w := Cond.methodLink RX1 3 Lib.objectInit) (by decide +kernel) (by decide +kernel)
theorem oqX1_3 : OQ RX1 3 := ⟨wd_12, wd_1, wd_2⟩
theorem wd_13 : Cond.fieldLink RX1 9 (TX1 0).1 (TX1 0).2.1 (TX1 0).2.2.1 ∈ gw := gw_of (w := Cond.fieldLink RX1 9 (TX1 0).1 (TX1 0).2.1 (TX1 0).2.2.1) (by decide +kernel) (by decide +kernel)
theorem fqX1_9 : FQ RX1 9 2 0 true (.array .int) true := ⟨by decide, by decide, RX1, TX1, 7, tyX1, rfl, igX1, by decide, rfl, wd_13, rfl, tyX1_ok, nmX1, rfl, by decide +kernel, rfl⟩
theorem wd_14 : Cond.fieldLink RX1 15 (TX1 1).1 (TX1 1).2.1 (TX1 1).2.2.1 ∈ gw := gw_of (w := Cond.fieldLink RX1 15 (TX1 1).1 (TX1 1).2.1 (TX1 1).2.2.1) (by decide +kernel) (by decide +kernel)
theorem fqX1_15 : FQ RX1 15 2 1 true (.array .int) true := ⟨by decide, by decide, RX1, TX1, 7, tyX1, rfl, igX1, by decide, rfl, wd_14, rfl, tyX1_ok, nmX1, rfl, by decide +kernel, rfl⟩
theorem wd_15 : Cond.fieldLink RX1 18 (TX1 2).1 (TX1 2).2.1 (TX1 2).2.2.1 ∈ gw := gw_of (w := Cond.fieldLink RX1 18 (TX1 2).1 (TX1 2).2.1 (TX1 2).2.2.1) (by decide +kernel) (by decide +kernel)
theorem fqX1_18 : FQ RX1 18 2 2 true (.array .int) true := ⟨by decide, by decide, RX1, TX1, 7, tyX1, rfl, igX1, by decide, rfl, wd_15, rfl, tyX1_ok, nmX1, rfl, by decide +kernel, rfl⟩
theorem wd_16 : Cond.fieldLink RX1 21 (TX1 3).1 (TX1 3).2.1 (TX1 3).2.2.1 ∈ gw := gw_of (w := Cond.fieldLink RX1 21 (TX1 3).1 (TX1 3).2.1 (TX1 3).2.2.1) (by decide +kernel) (by decide +kernel)
theorem fqX1_21 : FQ RX1 21 2 3 true (.array .int) true := ⟨by decide, by decide, RX1, TX1, 7, tyX1, rfl, igX1, by decide, rfl, wd_16, rfl, tyX1_ok, nmX1, rfl, by decide +kernel, rfl⟩
theorem wd_17 : Cond.fieldLink RX1 24 (TX1 4).1 (TX1 4).2.1 (TX1 4).2.2.1 ∈ gw := gw_of (w := Cond.fieldLink RX1 24 (TX1 4).1 (TX1 4).2.1 (TX1 4).2.2.1) (by decide +kernel) (by decide +kernel)
theorem fqX1_24 : FQ RX1 24 2 4 true (.array .int) true := ⟨by decide, by decide, RX1, TX1, 7, tyX1, rfl, igX1, by decide, rfl, wd_17, rfl, tyX1_ok, nmX1, rfl, by decide +kernel, rfl⟩
theorem wd_18 : Cond.fieldLink RX1 27 (TX1 5).1 (TX1 5).2.1 (TX1 5).2.2.1 ∈ gw := gw_of (w := Cond.fieldLink RX1 27 (TX1 5).1 (TX1 5).2.1 (TX1 5).2.2.1) (by decide +kernel) (by decide +kernel)
theorem fqX1_27 : FQ RX1 27 2 5 true (.array .boolean) true := ⟨by decide, by decide, RX1, TX1, 7, tyX1, rfl, igX1, by decide, rfl, wd_18, rfl, tyX1_ok, nmX1, rfl, by decide +kernel, rfl⟩
theorem wd_19 : Cond.fieldLink RX1 31 (TX1 6).1 (TX1 6).2.1 (TX1 6).2.2.1 ∈ gw := gw_of (w := Cond.fieldLink RX1 31 (TX1 6).1 (TX1 6).2.1 (TX1 6).2.2.1) (by decide +kernel) (by decide +kernel)
theorem fqX1_31 : FQ RX1 31 2 6 false (.int) false := ⟨by decide, by decide, RX1, TX1, 7, tyX1, rfl, igX1, by decide, rfl, wd_19, rfl, tyX1_ok, nmX1, rfl, by decide +kernel, rfl⟩
theorem wd_20 : Cond.code yX1_has cX1_has 2 (some .boolean) ∈ gw := gw_of (w := Cond.code yX1_has cX1_has 2 (some .boolean)) (by decide +kernel) (by decide +kernel)
theorem wd_21 : Cond.methodLink RX1 35 yX1_has ∈ gw := gw_of (w := Cond.methodLink RX1 35 yX1_has) (by decide +kernel) (by decide +kernel)
theorem wd_22 : Cond.instanceMethod yX1_has ∈ gw := gw_of (w := Cond.instanceMethod yX1_has) (by decide +kernel) (by decide +kernel)
theorem wd_23 : Cond.selects RX1 yX1_has yX1_has ∈ gw := gw_of (w := Cond.selects RX1 yX1_has yX1_has) (by decide +kernel) (by decide +kernel)
theorem wd_24 : Cond.initialized RX1 ∈ gw := gw_of (w := Cond.initialized RX1) (by decide +kernel) (by decide +kernel)
theorem vqX1_35 : VQ RX1 35 yX1_has cX1_has 2 (some .boolean) 2 1 := ⟨⟨wd_21, wd_22, wd_23, wd_24, wd_20⟩, ⟨_, rfl, rfl⟩, by decide, by decide, by decide +kernel, by decide +kernel, by decide +kernel, by decide⟩
theorem wd_25 : Cond.code yX1_addPut cX1_addPut 6 (some .boolean) ∈ gw := gw_of (w := Cond.code yX1_addPut cX1_addPut 6 (some .boolean)) (by decide +kernel) (by decide +kernel)
theorem wd_26 : Cond.methodLink RX1 39 yX1_addPut ∈ gw := gw_of (w := Cond.methodLink RX1 39 yX1_addPut) (by decide +kernel) (by decide +kernel)
theorem wd_27 : Cond.instanceMethod yX1_addPut ∈ gw := gw_of (w := Cond.instanceMethod yX1_addPut) (by decide +kernel) (by decide +kernel)
theorem wd_28 : Cond.selects RX1 yX1_addPut yX1_addPut ∈ gw := gw_of (w := Cond.selects RX1 yX1_addPut yX1_addPut) (by decide +kernel) (by decide +kernel)
theorem vqX1_39 : VQ RX1 39 yX1_addPut cX1_addPut 6 (some .boolean) 2 4 := ⟨⟨wd_26, wd_27, wd_28, wd_24, wd_25⟩, ⟨_, rfl, rfl⟩, by decide, by decide, by decide +kernel, by decide +kernel, by decide +kernel, by decide⟩
theorem wd_29 : Cond.code yX1_addEntry cX1_addEntry 6 (some .boolean) ∈ gw := gw_of (w := Cond.code yX1_addEntry cX1_addEntry 6 (some .boolean)) (by decide +kernel) (by decide +kernel)
theorem wd_30 : Cond.methodLink RX1 43 yX1_addEntry ∈ gw := gw_of (w := Cond.methodLink RX1 43 yX1_addEntry) (by decide +kernel) (by decide +kernel)
theorem wd_31 : Cond.instanceMethod yX1_addEntry ∈ gw := gw_of (w := Cond.instanceMethod yX1_addEntry) (by decide +kernel) (by decide +kernel)
theorem wd_32 : Cond.selects RX1 yX1_addEntry yX1_addEntry ∈ gw := gw_of (w := Cond.selects RX1 yX1_addEntry yX1_addEntry) (by decide +kernel) (by decide +kernel)
theorem vqX1_43 : VQ RX1 43 yX1_addEntry cX1_addEntry 6 (some .boolean) 2 5 := ⟨⟨wd_30, wd_31, wd_32, wd_24, wd_29⟩, ⟨_, rfl, rfl⟩, by decide, by decide, by decide +kernel, by decide +kernel, by decide +kernel, by decide⟩
theorem wd_33 : Cond.code yX1_addSame cX1_addSame 3 (some .boolean) ∈ gw := gw_of (w := Cond.code yX1_addSame cX1_addSame 3 (some .boolean)) (by decide +kernel) (by decide +kernel)
theorem wd_34 : Cond.methodLink RX1 47 yX1_addSame ∈ gw := gw_of (w := Cond.methodLink RX1 47 yX1_addSame) (by decide +kernel) (by decide +kernel)
theorem wd_35 : Cond.instanceMethod yX1_addSame ∈ gw := gw_of (w := Cond.instanceMethod yX1_addSame) (by decide +kernel) (by decide +kernel)
theorem wd_36 : Cond.selects RX1 yX1_addSame yX1_addSame ∈ gw := gw_of (w := Cond.selects RX1 yX1_addSame yX1_addSame) (by decide +kernel) (by decide +kernel)
theorem vqX1_47 : VQ RX1 47 yX1_addSame cX1_addSame 3 (some .boolean) 2 2 := ⟨⟨wd_34, wd_35, wd_36, wd_24, wd_33⟩, ⟨_, rfl, rfl⟩, by decide, by decide, by decide +kernel, by decide +kernel, by decide +kernel, by decide⟩
theorem wd_37 : Cond.methodLink RX2 3 Lib.objectInit ∈ gw := gw_of (w := Cond.methodLink RX2 3 Lib.objectInit) (by decide +kernel) (by decide +kernel)
theorem oqX2_3 : OQ RX2 3 := ⟨wd_37, wd_1, wd_2⟩
theorem wd_38 : Cond.classLink RX2 9 (qn 3) ∈ gw := gw_of (w := Cond.classLink RX2 9 (qn 3)) (by decide +kernel) (by decide +kernel)
theorem aqX2_9 : Cond.classLink RX2 9 (qn 3) ∈ gw := wd_38
theorem wd_39 : Cond.fieldLink RX2 11 (TX2 4).1 (TX2 4).2.1 (TX2 4).2.2.1 ∈ gw := gw_of (w := Cond.fieldLink RX2 11 (TX2 4).1 (TX2 4).2.1 (TX2 4).2.2.1) (by decide +kernel) (by decide +kernel)
theorem fqX2_11 : FQ RX2 11 3 4 true (.array (.object "CopyReplace$Phrase")) true := ⟨by decide, by decide, RX2, TX2, 6, tyX2, rfl, igX2, by decide, rfl, wd_39, rfl, tyX2_ok, nmX2, rfl, by decide +kernel, rfl⟩
theorem wd_40 : Cond.fieldLink RX2 17 (TX2 0).1 (TX2 0).2.1 (TX2 0).2.2.1 ∈ gw := gw_of (w := Cond.fieldLink RX2 17 (TX2 0).1 (TX2 0).2.1 (TX2 0).2.2.1) (by decide +kernel) (by decide +kernel)
theorem fqX2_17 : FQ RX2 17 3 0 false (.int) true := ⟨by decide, by decide, RX2, TX2, 6, tyX2, rfl, igX2, by decide, rfl, wd_40, rfl, tyX2_ok, nmX2, rfl, by decide +kernel, rfl⟩
theorem wd_41 : Cond.fieldLink RX2 21 (TX2 1).1 (TX2 1).2.1 (TX2 1).2.2.1 ∈ gw := gw_of (w := Cond.fieldLink RX2 21 (TX2 1).1 (TX2 1).2.1 (TX2 1).2.2.1) (by decide +kernel) (by decide +kernel)
theorem fqX2_21 : FQ RX2 21 3 1 false (.boolean) true := ⟨by decide, by decide, RX2, TX2, 6, tyX2, rfl, igX2, by decide, rfl, wd_41, rfl, tyX2_ok, nmX2, rfl, by decide +kernel, rfl⟩
theorem wd_42 : Cond.fieldLink RX2 25 (TX2 2).1 (TX2 2).2.1 (TX2 2).2.2.1 ∈ gw := gw_of (w := Cond.fieldLink RX2 25 (TX2 2).1 (TX2 2).2.1 (TX2 2).2.2.1) (by decide +kernel) (by decide +kernel)
theorem fqX2_25 : FQ RX2 25 3 2 false (.int) true := ⟨by decide, by decide, RX2, TX2, 6, tyX2, rfl, igX2, by decide, rfl, wd_42, rfl, tyX2_ok, nmX2, rfl, by decide +kernel, rfl⟩
theorem wd_43 : Cond.fieldLink RX2 28 (TX2 3).1 (TX2 3).2.1 (TX2 3).2.2.1 ∈ gw := gw_of (w := Cond.fieldLink RX2 28 (TX2 3).1 (TX2 3).2.1 (TX2 3).2.2.1) (by decide +kernel) (by decide +kernel)
theorem fqX2_28 : FQ RX2 28 3 3 false (.boolean) true := ⟨by decide, by decide, RX2, TX2, 6, tyX2, rfl, igX2, by decide, rfl, wd_43, rfl, tyX2_ok, nmX2, rfl, by decide +kernel, rfl⟩
theorem wd_44 : Cond.fieldLink RX2 31 (TX2 5).1 (TX2 5).2.1 (TX2 5).2.2.1 ∈ gw := gw_of (w := Cond.fieldLink RX2 31 (TX2 5).1 (TX2 5).2.1 (TX2 5).2.2.1) (by decide +kernel) (by decide +kernel)
theorem fqX2_31 : FQ RX2 31 3 5 false (.int) false := ⟨by decide, by decide, RX2, TX2, 6, tyX2, rfl, igX2, by decide, rfl, wd_44, rfl, tyX2_ok, nmX2, rfl, by decide +kernel, rfl⟩
theorem wd_45 : Cond.methodLink RX3 3 Lib.objectInit ∈ gw := gw_of (w := Cond.methodLink RX3 3 Lib.objectInit) (by decide +kernel) (by decide +kernel)
theorem oqX3_3 : OQ RX3 3 := ⟨wd_45, wd_1, wd_2⟩
theorem wd_46 : Cond.classLink RX3 9 RX1 ∈ gw := gw_of (w := Cond.classLink RX3 9 RX1) (by decide +kernel) (by decide +kernel)
theorem wd_47 : Cond.instantiable RX1 7 ∈ gw := gw_of (w := Cond.instantiable RX1 7) (by decide +kernel) (by decide +kernel)
theorem nqX3_9 : NQ RX3 9 2 7 := ⟨by decide, by decide, RX1, TX1, tyX1, rfl, igX1, rfl, tyX1_ok, wd_46, wd_47, wd_24, by decide +kernel⟩
theorem wd_48 : Cond.code yX1_init cX1_init 1 none ∈ gw := gw_of (w := Cond.code yX1_init cX1_init 1 none) (by decide +kernel) (by decide +kernel)
theorem wd_49 : Cond.instanceMethod yX1_init ∈ gw := gw_of (w := Cond.instanceMethod yX1_init) (by decide +kernel) (by decide +kernel)
theorem jqX3_11 : JQ RX3 11 yX1_init cX1_init 1 0 RX5 := ⟨⟨by decide +kernel, wd_49, wd_24, wd_48⟩, rfl, by decide +kernel, by decide +kernel, by decide +kernel, by decide⟩
theorem wd_50 : Cond.fieldLink RX3 12 (TX3 2).1 (TX3 2).2.1 (TX3 2).2.2.1 ∈ gw := gw_of (w := Cond.fieldLink RX3 12 (TX3 2).1 (TX3 2).2.1 (TX3 2).2.2.1) (by decide +kernel) (by decide +kernel)
theorem fqX3_12 : FQ RX3 12 4 2 true (.object "CopyReplace$Row") true := ⟨by decide, by decide, RX3, TX3, 5, tyX3, rfl, igX3, by decide, rfl, wd_50, rfl, tyX3_ok, nmX3, rfl, by decide +kernel, rfl⟩
theorem wd_51 : Cond.fieldLink RX3 18 (TX3 3).1 (TX3 3).2.1 (TX3 3).2.2.1 ∈ gw := gw_of (w := Cond.fieldLink RX3 18 (TX3 3).1 (TX3 3).2.1 (TX3 3).2.2.1) (by decide +kernel) (by decide +kernel)
theorem fqX3_18 : FQ RX3 18 4 3 true (.array .int) true := ⟨by decide, by decide, RX3, TX3, 5, tyX3, rfl, igX3, by decide, rfl, wd_51, rfl, tyX3_ok, nmX3, rfl, by decide +kernel, rfl⟩
theorem wd_52 : Cond.fieldLink RX3 22 (TX3 0).1 (TX3 0).2.1 (TX3 0).2.2.1 ∈ gw := gw_of (w := Cond.fieldLink RX3 22 (TX3 0).1 (TX3 0).2.1 (TX3 0).2.2.1) (by decide +kernel) (by decide +kernel)
theorem fqX3_22 : FQ RX3 22 4 0 false (.int) true := ⟨by decide, by decide, RX3, TX3, 5, tyX3, rfl, igX3, by decide, rfl, wd_52, rfl, tyX3_ok, nmX3, rfl, by decide +kernel, rfl⟩
theorem wd_53 : Cond.fieldLink RX3 26 (TX3 1).1 (TX3 1).2.1 (TX3 1).2.2.1 ∈ gw := gw_of (w := Cond.fieldLink RX3 26 (TX3 1).1 (TX3 1).2.1 (TX3 1).2.2.1) (by decide +kernel) (by decide +kernel)
theorem fqX3_26 : FQ RX3 26 4 1 false (.int) true := ⟨by decide, by decide, RX3, TX3, 5, tyX3, rfl, igX3, by decide, rfl, wd_53, rfl, tyX3_ok, nmX3, rfl, by decide +kernel, rfl⟩
theorem wd_54 : Cond.fieldLink RX3 29 (TX3 4).1 (TX3 4).2.1 (TX3 4).2.2.1 ∈ gw := gw_of (w := Cond.fieldLink RX3 29 (TX3 4).1 (TX3 4).2.1 (TX3 4).2.2.1) (by decide +kernel) (by decide +kernel)
theorem fqX3_29 : FQ RX3 29 4 4 false (.int) false := ⟨by decide, by decide, RX3, TX3, 5, tyX3, rfl, igX3, by decide, rfl, wd_54, rfl, tyX3_ok, nmX3, rfl, by decide +kernel, rfl⟩
theorem wd_55 : Cond.methodLink RX4 3 Lib.objectInit ∈ gw := gw_of (w := Cond.methodLink RX4 3 Lib.objectInit) (by decide +kernel) (by decide +kernel)
theorem oqX4_3 : OQ RX4 3 := ⟨wd_55, wd_1, wd_2⟩
theorem wd_56 : Cond.fieldLink RX4 9 (TX4 0).1 (TX4 0).2.1 (TX4 0).2.2.1 ∈ gw := gw_of (w := Cond.fieldLink RX4 9 (TX4 0).1 (TX4 0).2.1 (TX4 0).2.2.1) (by decide +kernel) (by decide +kernel)
theorem fqX4_9 : FQ RX4 9 5 0 true (.array .int) true := ⟨by decide, by decide, RX4, TX4, 2, tyX4, rfl, igX4, by decide, rfl, wd_56, rfl, tyX4_ok, nmX4, rfl, by decide +kernel, rfl⟩
theorem wd_57 : Cond.fieldLink RX4 15 (TX4 1).1 (TX4 1).2.1 (TX4 1).2.2.1 ∈ gw := gw_of (w := Cond.fieldLink RX4 15 (TX4 1).1 (TX4 1).2.1 (TX4 1).2.2.1) (by decide +kernel) (by decide +kernel)
theorem fqX4_15 : FQ RX4 15 5 1 false (.int) false := ⟨by decide, by decide, RX4, TX4, 2, tyX4, rfl, igX4, by decide, rfl, wd_57, rfl, tyX4_ok, nmX4, rfl, by decide +kernel, rfl⟩
theorem wd_58 : Cond.code yX4_isFull cX4_isFull 1 (some .boolean) ∈ gw := gw_of (w := Cond.code yX4_isFull cX4_isFull 1 (some .boolean)) (by decide +kernel) (by decide +kernel)
theorem wd_59 : Cond.methodLink RX4 19 yX4_isFull ∈ gw := gw_of (w := Cond.methodLink RX4 19 yX4_isFull) (by decide +kernel) (by decide +kernel)
theorem wd_60 : Cond.instanceMethod yX4_isFull ∈ gw := gw_of (w := Cond.instanceMethod yX4_isFull) (by decide +kernel) (by decide +kernel)
theorem wd_61 : Cond.selects RX4 yX4_isFull yX4_isFull ∈ gw := gw_of (w := Cond.selects RX4 yX4_isFull yX4_isFull) (by decide +kernel) (by decide +kernel)
theorem vqX4_19 : VQ RX4 19 yX4_isFull cX4_isFull 1 (some .boolean) 5 0 := ⟨⟨wd_59, wd_60, wd_61, wd_5, wd_58⟩, ⟨_, rfl, rfl⟩, by decide, by decide, by decide +kernel, by decide +kernel, by decide +kernel, by decide⟩
theorem wd_62 : Cond.methodLink RX5 1 Lib.objectInit ∈ gw := gw_of (w := Cond.methodLink RX5 1 Lib.objectInit) (by decide +kernel) (by decide +kernel)
theorem oqX5_1 : OQ RX5 1 := ⟨wd_62, wd_1, wd_2⟩
theorem wd_63 : Cond.classLink RX5 9 (qn 5) ∈ gw := gw_of (w := Cond.classLink RX5 9 (qn 5)) (by decide +kernel) (by decide +kernel)
theorem aqX5_9 : Cond.classLink RX5 9 (qn 5) ∈ gw := wd_63
theorem wd_64 : Cond.fieldLink RX5 11 (TX5 0).1 (TX5 0).2.1 (TX5 0).2.2.1 ∈ gw := gw_of (w := Cond.fieldLink RX5 11 (TX5 0).1 (TX5 0).2.1 (TX5 0).2.2.1) (by decide +kernel) (by decide +kernel)
theorem fqX5_11 : FQ RX5 11 6 0 true (.array (.object "CopyReplace$Text")) true := ⟨by decide, by decide, RX5, TX5, 13, tyX5, rfl, igX5, by decide, rfl, wd_64, rfl, tyX5_ok, nmX5, rfl, by decide +kernel, rfl⟩
theorem wd_65 : Cond.classLink RX5 15 (qn 4) ∈ gw := gw_of (w := Cond.classLink RX5 15 (qn 4)) (by decide +kernel) (by decide +kernel)
theorem aqX5_15 : Cond.classLink RX5 15 (qn 4) ∈ gw := wd_65
theorem wd_66 : Cond.fieldLink RX5 17 (TX5 1).1 (TX5 1).2.1 (TX5 1).2.2.1 ∈ gw := gw_of (w := Cond.fieldLink RX5 17 (TX5 1).1 (TX5 1).2.1 (TX5 1).2.2.1) (by decide +kernel) (by decide +kernel)
theorem fqX5_17 : FQ RX5 17 6 1 true (.array (.object "CopyReplace$Statement")) true := ⟨by decide, by decide, RX5, TX5, 13, tyX5, rfl, igX5, by decide, rfl, wd_66, rfl, tyX5_ok, nmX5, rfl, by decide +kernel, rfl⟩
theorem wd_67 : Cond.classLink RX5 21 (qn 3) ∈ gw := gw_of (w := Cond.classLink RX5 21 (qn 3)) (by decide +kernel) (by decide +kernel)
theorem aqX5_21 : Cond.classLink RX5 21 (qn 3) ∈ gw := wd_67
theorem wd_68 : Cond.fieldLink RX5 23 (TX5 2).1 (TX5 2).2.1 (TX5 2).2.2.1 ∈ gw := gw_of (w := Cond.fieldLink RX5 23 (TX5 2).1 (TX5 2).2.1 (TX5 2).2.2.1) (by decide +kernel) (by decide +kernel)
theorem fqX5_23 : FQ RX5 23 6 2 true (.array (.object "CopyReplace$Phrase")) true := ⟨by decide, by decide, RX5, TX5, 13, tyX5, rfl, igX5, by decide, rfl, wd_68, rfl, tyX5_ok, nmX5, rfl, by decide +kernel, rfl⟩
theorem wd_69 : Cond.fieldLink RX5 27 (TX5 6).1 (TX5 6).2.1 (TX5 6).2.2.1 ∈ gw := gw_of (w := Cond.fieldLink RX5 27 (TX5 6).1 (TX5 6).2.1 (TX5 6).2.2.1) (by decide +kernel) (by decide +kernel)
theorem fqX5_27 : FQ RX5 27 6 6 true (.array (.object "CopyReplace$Text")) true := ⟨by decide, by decide, RX5, TX5, 13, tyX5, rfl, igX5, by decide, rfl, wd_69, rfl, tyX5_ok, nmX5, rfl, by decide +kernel, rfl⟩
theorem wd_70 : Cond.classLink RX5 30 RX1 ∈ gw := gw_of (w := Cond.classLink RX5 30 RX1) (by decide +kernel) (by decide +kernel)
theorem nqX5_30 : NQ RX5 30 2 7 := ⟨by decide, by decide, RX1, TX1, tyX1, rfl, igX1, rfl, tyX1_ok, wd_70, wd_47, wd_24, by decide +kernel⟩
theorem jqX5_32 : JQ RX5 32 yX1_init cX1_init 1 0 RX5 := ⟨⟨by decide +kernel, wd_49, wd_24, wd_48⟩, rfl, by decide +kernel, by decide +kernel, by decide +kernel, by decide⟩
theorem wd_71 : Cond.fieldLink RX5 33 (TX5 7).1 (TX5 7).2.1 (TX5 7).2.2.1 ∈ gw := gw_of (w := Cond.fieldLink RX5 33 (TX5 7).1 (TX5 7).2.1 (TX5 7).2.2.1) (by decide +kernel) (by decide +kernel)
theorem fqX5_33 : FQ RX5 33 6 7 true (.object "CopyReplace$Row") true := ⟨by decide, by decide, RX5, TX5, 13, tyX5, rfl, igX5, by decide, rfl, wd_71, rfl, tyX5_ok, nmX5, rfl, by decide +kernel, rfl⟩
theorem wd_72 : Cond.fieldLink RX5 37 (TX5 8).1 (TX5 8).2.1 (TX5 8).2.2.1 ∈ gw := gw_of (w := Cond.fieldLink RX5 37 (TX5 8).1 (TX5 8).2.1 (TX5 8).2.2.1) (by decide +kernel) (by decide +kernel)
theorem fqX5_37 : FQ RX5 37 6 8 true (.object "CopyReplace$Row") true := ⟨by decide, by decide, RX5, TX5, 13, tyX5, rfl, igX5, by decide, rfl, wd_72, rfl, tyX5_ok, nmX5, rfl, by decide +kernel, rfl⟩
theorem wd_73 : Cond.fieldLink RX5 40 (TX5 9).1 (TX5 9).2.1 (TX5 9).2.2.1 ∈ gw := gw_of (w := Cond.fieldLink RX5 40 (TX5 9).1 (TX5 9).2.1 (TX5 9).2.2.1) (by decide +kernel) (by decide +kernel)
theorem fqX5_40 : FQ RX5 40 6 9 true (.array .int) true := ⟨by decide, by decide, RX5, TX5, 13, tyX5, rfl, igX5, by decide, rfl, wd_73, rfl, tyX5_ok, nmX5, rfl, by decide +kernel, rfl⟩
theorem wd_74 : Cond.classLink RX5 9 RX3 ∈ gw := gw_of (w := Cond.classLink RX5 9 RX3) (by decide +kernel) (by decide +kernel)
theorem wd_75 : Cond.instantiable RX3 5 ∈ gw := gw_of (w := Cond.instantiable RX3 5) (by decide +kernel) (by decide +kernel)
theorem wd_76 : Cond.initialized RX3 ∈ gw := gw_of (w := Cond.initialized RX3) (by decide +kernel) (by decide +kernel)
theorem nqX5_9 : NQ RX5 9 4 5 := ⟨by decide, by decide, RX3, TX3, tyX3, rfl, igX3, rfl, tyX3_ok, wd_74, wd_75, wd_76, by decide +kernel⟩
theorem wd_77 : Cond.code yX3_init cX3_init 3 none ∈ gw := gw_of (w := Cond.code yX3_init cX3_init 3 none) (by decide +kernel) (by decide +kernel)
theorem wd_78 : Cond.methodLink RX5 44 yX3_init ∈ gw := gw_of (w := Cond.methodLink RX5 44 yX3_init) (by decide +kernel) (by decide +kernel)
theorem wd_79 : Cond.instanceMethod yX3_init ∈ gw := gw_of (w := Cond.instanceMethod yX3_init) (by decide +kernel) (by decide +kernel)
theorem iqX5_44 : IQ RX5 44 yX3_init cX3_init 3 2 := ⟨⟨wd_78, wd_79, wd_76, wd_77⟩, rfl, by decide +kernel, by decide +kernel, by decide +kernel, by decide⟩
theorem wd_80 : Cond.fieldLink RX5 47 (TX5 3).1 (TX5 3).2.1 (TX5 3).2.2.1 ∈ gw := gw_of (w := Cond.fieldLink RX5 47 (TX5 3).1 (TX5 3).2.1 (TX5 3).2.2.1) (by decide +kernel) (by decide +kernel)
theorem fqX5_47 : FQ RX5 47 6 3 false (.int) false := ⟨by decide, by decide, RX5, TX5, 13, tyX5, rfl, igX5, by decide, rfl, wd_80, rfl, tyX5_ok, nmX5, rfl, by decide +kernel, rfl⟩
theorem wd_81 : Cond.code yX5_isName cX5_isName 1 (some .boolean) ∈ gw := gw_of (w := Cond.code yX5_isName cX5_isName 1 (some .boolean)) (by decide +kernel) (by decide +kernel)
theorem wd_82 : Cond.methodLink RX5 51 yX5_isName ∈ gw := gw_of (w := Cond.methodLink RX5 51 yX5_isName) (by decide +kernel) (by decide +kernel)
theorem wd_83 : Cond.static yX5_isName ∈ gw := gw_of (w := Cond.static yX5_isName) (by decide +kernel) (by decide +kernel)
theorem wd_84 : Cond.initialized RX5 ∈ gw := gw_of (w := Cond.initialized RX5) (by decide +kernel) (by decide +kernel)
theorem sqX5_51 : SQ RX5 51 yX5_isName cX5_isName 1 (some .boolean) 1 := ⟨⟨wd_82, wd_83, wd_84, wd_81⟩, rfl, by decide +kernel, by decide +kernel, by decide +kernel, by decide⟩
theorem wd_85 : Cond.code yX5_textNumbered cX5_textNumbered 2 (some (.object "CopyReplace$Text")) ∈ gw := gw_of (w := Cond.code yX5_textNumbered cX5_textNumbered 2 (some (.object "CopyReplace$Text"))) (by decide +kernel) (by decide +kernel)
theorem wd_86 : Cond.methodLink RX5 55 yX5_textNumbered ∈ gw := gw_of (w := Cond.methodLink RX5 55 yX5_textNumbered) (by decide +kernel) (by decide +kernel)
theorem wd_87 : Cond.instanceMethod yX5_textNumbered ∈ gw := gw_of (w := Cond.instanceMethod yX5_textNumbered) (by decide +kernel) (by decide +kernel)
theorem wd_88 : Cond.selects RX5 yX5_textNumbered yX5_textNumbered ∈ gw := gw_of (w := Cond.selects RX5 yX5_textNumbered yX5_textNumbered) (by decide +kernel) (by decide +kernel)
theorem vqX5_55 : VQ RX5 55 yX5_textNumbered cX5_textNumbered 2 (some (.object "CopyReplace$Text")) 6 1 := ⟨⟨wd_86, wd_87, wd_88, wd_84, wd_85⟩, ⟨_, rfl, rfl⟩, by decide, by decide, by decide +kernel, by decide +kernel, by decide +kernel, by decide⟩
theorem wd_89 : Cond.code yX5_isPlain cX5_isPlain 1 (some .boolean) ∈ gw := gw_of (w := Cond.code yX5_isPlain cX5_isPlain 1 (some .boolean)) (by decide +kernel) (by decide +kernel)
theorem wd_90 : Cond.methodLink RX5 59 yX5_isPlain ∈ gw := gw_of (w := Cond.methodLink RX5 59 yX5_isPlain) (by decide +kernel) (by decide +kernel)
theorem wd_91 : Cond.static yX5_isPlain ∈ gw := gw_of (w := Cond.static yX5_isPlain) (by decide +kernel) (by decide +kernel)
theorem sqX5_59 : SQ RX5 59 yX5_isPlain cX5_isPlain 1 (some .boolean) 1 := ⟨⟨wd_90, wd_91, wd_84, wd_89⟩, rfl, by decide +kernel, by decide +kernel, by decide +kernel, by decide⟩
theorem wd_92 : Cond.code yX3_append cX3_append 2 (some .boolean) ∈ gw := gw_of (w := Cond.code yX3_append cX3_append 2 (some .boolean)) (by decide +kernel) (by decide +kernel)
theorem wd_93 : Cond.methodLink RX5 62 yX3_append ∈ gw := gw_of (w := Cond.methodLink RX5 62 yX3_append) (by decide +kernel) (by decide +kernel)
theorem wd_94 : Cond.instanceMethod yX3_append ∈ gw := gw_of (w := Cond.instanceMethod yX3_append) (by decide +kernel) (by decide +kernel)
theorem wd_95 : Cond.selects RX3 yX3_append yX3_append ∈ gw := gw_of (w := Cond.selects RX3 yX3_append yX3_append) (by decide +kernel) (by decide +kernel)
theorem vqX5_62 : VQ RX5 62 yX3_append cX3_append 2 (some .boolean) 4 1 := ⟨⟨wd_93, wd_94, wd_95, wd_76, wd_92⟩, ⟨_, rfl, rfl⟩, by decide, by decide, by decide +kernel, by decide +kernel, by decide +kernel, by decide⟩
theorem wd_96 : Cond.fieldLink RX5 65 (TX3 4).1 (TX3 4).2.1 (TX3 4).2.2.1 ∈ gw := gw_of (w := Cond.fieldLink RX5 65 (TX3 4).1 (TX3 4).2.1 (TX3 4).2.2.1) (by decide +kernel) (by decide +kernel)
theorem fqX5_65 : FQ RX5 65 4 4 false (.int) false := ⟨by decide, by decide, RX3, TX3, 5, tyX3, rfl, igX3, by decide, rfl, wd_96, rfl, tyX3_ok, nmX3, rfl, by decide +kernel, rfl⟩
theorem wd_97 : Cond.code yX5_addStatement cX5_addStatement 6 (some .int) ∈ gw := gw_of (w := Cond.code yX5_addStatement cX5_addStatement 6 (some .int)) (by decide +kernel) (by decide +kernel)
theorem wd_98 : Cond.methodLink RX5 68 yX5_addStatement ∈ gw := gw_of (w := Cond.methodLink RX5 68 yX5_addStatement) (by decide +kernel) (by decide +kernel)
theorem wd_99 : Cond.instanceMethod yX5_addStatement ∈ gw := gw_of (w := Cond.instanceMethod yX5_addStatement) (by decide +kernel) (by decide +kernel)
theorem wd_100 : Cond.selects RX5 yX5_addStatement yX5_addStatement ∈ gw := gw_of (w := Cond.selects RX5 yX5_addStatement yX5_addStatement) (by decide +kernel) (by decide +kernel)
theorem vqX5_68 : VQ RX5 68 yX5_addStatement cX5_addStatement 6 (some .int) 6 4 := ⟨⟨wd_98, wd_99, wd_100, wd_84, wd_97⟩, ⟨_, rfl, rfl⟩, by decide, by decide, by decide +kernel, by decide +kernel, by decide +kernel, by decide⟩
theorem wd_101 : Cond.code yX5_statementNumbered cX5_statementNumbered 2 (some (.object "CopyReplace$Statement")) ∈ gw := gw_of (w := Cond.code yX5_statementNumbered cX5_statementNumbered 2 (some (.object "CopyReplace$Statement"))) (by decide +kernel) (by decide +kernel)
theorem wd_102 : Cond.methodLink RX5 72 yX5_statementNumbered ∈ gw := gw_of (w := Cond.methodLink RX5 72 yX5_statementNumbered) (by decide +kernel) (by decide +kernel)
theorem wd_103 : Cond.instanceMethod yX5_statementNumbered ∈ gw := gw_of (w := Cond.instanceMethod yX5_statementNumbered) (by decide +kernel) (by decide +kernel)
theorem wd_104 : Cond.selects RX5 yX5_statementNumbered yX5_statementNumbered ∈ gw := gw_of (w := Cond.selects RX5 yX5_statementNumbered yX5_statementNumbered) (by decide +kernel) (by decide +kernel)
theorem vqX5_72 : VQ RX5 72 yX5_statementNumbered cX5_statementNumbered 2 (some (.object "CopyReplace$Statement")) 6 1 := ⟨⟨wd_102, wd_103, wd_104, wd_84, wd_101⟩, ⟨_, rfl, rfl⟩, by decide, by decide, by decide +kernel, by decide +kernel, by decide +kernel, by decide⟩
theorem wd_105 : Cond.code yX5_isWord cX5_isWord 3 (some .boolean) ∈ gw := gw_of (w := Cond.code yX5_isWord cX5_isWord 3 (some .boolean)) (by decide +kernel) (by decide +kernel)
theorem wd_106 : Cond.methodLink RX5 76 yX5_isWord ∈ gw := gw_of (w := Cond.methodLink RX5 76 yX5_isWord) (by decide +kernel) (by decide +kernel)
theorem wd_107 : Cond.static yX5_isWord ∈ gw := gw_of (w := Cond.static yX5_isWord) (by decide +kernel) (by decide +kernel)
theorem sqX5_76 : SQ RX5 76 yX5_isWord cX5_isWord 3 (some .boolean) 1 := ⟨⟨wd_106, wd_107, wd_84, wd_105⟩, rfl, by decide +kernel, by decide +kernel, by decide +kernel, by decide⟩
theorem wd_108 : Cond.fieldLink RX5 79 (TX5 5).1 (TX5 5).2.1 (TX5 5).2.2.1 ∈ gw := gw_of (w := Cond.fieldLink RX5 79 (TX5 5).1 (TX5 5).2.1 (TX5 5).2.2.1) (by decide +kernel) (by decide +kernel)
theorem fqX5_79 : FQ RX5 79 6 5 false (.int) false := ⟨by decide, by decide, RX5, TX5, 13, tyX5, rfl, igX5, by decide, rfl, wd_108, rfl, tyX5_ok, nmX5, rfl, by decide +kernel, rfl⟩
theorem wd_109 : Cond.fieldLink RX5 82 (TX2 5).1 (TX2 5).2.1 (TX2 5).2.2.1 ∈ gw := gw_of (w := Cond.fieldLink RX5 82 (TX2 5).1 (TX2 5).2.1 (TX2 5).2.2.1) (by decide +kernel) (by decide +kernel)
theorem fqX5_82 : FQ RX5 82 3 5 false (.int) false := ⟨by decide, by decide, RX2, TX2, 6, tyX2, rfl, igX2, by decide, rfl, wd_109, rfl, tyX2_ok, nmX2, rfl, by decide +kernel, rfl⟩
theorem wd_110 : Cond.classLink RX5 21 RX0 ∈ gw := gw_of (w := Cond.classLink RX5 21 RX0) (by decide +kernel) (by decide +kernel)
theorem wd_111 : Cond.instantiable RX0 4 ∈ gw := gw_of (w := Cond.instantiable RX0 4) (by decide +kernel) (by decide +kernel)
theorem wd_112 : Cond.initialized RX0 ∈ gw := gw_of (w := Cond.initialized RX0) (by decide +kernel) (by decide +kernel)
theorem nqX5_21 : NQ RX5 21 1 4 := ⟨by decide, by decide, RX0, TX0, tyX0, rfl, igX0, rfl, tyX0_ok, wd_110, wd_111, wd_112, by decide +kernel⟩
theorem wd_113 : Cond.code yX0_init cX0_init 3 none ∈ gw := gw_of (w := Cond.code yX0_init cX0_init 3 none) (by decide +kernel) (by decide +kernel)
theorem wd_114 : Cond.methodLink RX5 83 yX0_init ∈ gw := gw_of (w := Cond.methodLink RX5 83 yX0_init) (by decide +kernel) (by decide +kernel)
theorem wd_115 : Cond.instanceMethod yX0_init ∈ gw := gw_of (w := Cond.instanceMethod yX0_init) (by decide +kernel) (by decide +kernel)
theorem iqX5_83 : IQ RX5 83 yX0_init cX0_init 3 2 := ⟨⟨wd_114, wd_115, wd_112, wd_113⟩, rfl, by decide +kernel, by decide +kernel, by decide +kernel, by decide⟩
theorem wd_116 : Cond.fieldLink RX5 84 (TX0 2).1 (TX0 2).2.1 (TX0 2).2.2.1 ∈ gw := gw_of (w := Cond.fieldLink RX5 84 (TX0 2).1 (TX0 2).2.1 (TX0 2).2.2.1) (by decide +kernel) (by decide +kernel)
theorem fqX5_84 : FQ RX5 84 1 2 true (.object "CopyReplace$Words") true := ⟨by decide, by decide, RX0, TX0, 4, tyX0, rfl, igX0, by decide, rfl, wd_116, rfl, tyX0_ok, nmX0, rfl, by decide +kernel, rfl⟩
theorem wd_117 : Cond.code yX4_append cX4_append 2 none ∈ gw := gw_of (w := Cond.code yX4_append cX4_append 2 none) (by decide +kernel) (by decide +kernel)
theorem wd_118 : Cond.methodLink RX5 88 yX4_append ∈ gw := gw_of (w := Cond.methodLink RX5 88 yX4_append) (by decide +kernel) (by decide +kernel)
theorem wd_119 : Cond.instanceMethod yX4_append ∈ gw := gw_of (w := Cond.instanceMethod yX4_append) (by decide +kernel) (by decide +kernel)
theorem wd_120 : Cond.selects RX4 yX4_append yX4_append ∈ gw := gw_of (w := Cond.selects RX4 yX4_append yX4_append) (by decide +kernel) (by decide +kernel)
theorem vqX5_88 : VQ RX5 88 yX4_append cX4_append 2 none 5 1 := ⟨⟨wd_118, wd_119, wd_120, wd_5, wd_117⟩, ⟨_, rfl, rfl⟩, by decide, by decide, by decide +kernel, by decide +kernel, by decide +kernel, by decide⟩
theorem wd_121 : Cond.code yX2_append cX2_append 2 none ∈ gw := gw_of (w := Cond.code yX2_append cX2_append 2 none) (by decide +kernel) (by decide +kernel)
theorem wd_122 : Cond.methodLink RX5 93 yX2_append ∈ gw := gw_of (w := Cond.methodLink RX5 93 yX2_append) (by decide +kernel) (by decide +kernel)
theorem wd_123 : Cond.instanceMethod yX2_append ∈ gw := gw_of (w := Cond.instanceMethod yX2_append) (by decide +kernel) (by decide +kernel)
theorem wd_124 : Cond.selects RX2 yX2_append yX2_append ∈ gw := gw_of (w := Cond.selects RX2 yX2_append yX2_append) (by decide +kernel) (by decide +kernel)
theorem wd_125 : Cond.initialized RX2 ∈ gw := gw_of (w := Cond.initialized RX2) (by decide +kernel) (by decide +kernel)
theorem vqX5_93 : VQ RX5 93 yX2_append cX2_append 2 none 3 1 := ⟨⟨wd_122, wd_123, wd_124, wd_125, wd_121⟩, ⟨_, rfl, rfl⟩, by decide, by decide, by decide +kernel, by decide +kernel, by decide +kernel, by decide⟩
theorem wd_126 : Cond.fieldLink RX5 96 (TX0 0).1 (TX0 0).2.1 (TX0 0).2.2.1 ∈ gw := gw_of (w := Cond.fieldLink RX5 96 (TX0 0).1 (TX0 0).2.1 (TX0 0).2.2.1) (by decide +kernel) (by decide +kernel)
theorem fqX5_96 : FQ RX5 96 1 0 false (.int) true := ⟨by decide, by decide, RX0, TX0, 4, tyX0, rfl, igX0, by decide, rfl, wd_126, rfl, tyX0_ok, nmX0, rfl, by decide +kernel, rfl⟩
theorem wd_127 : Cond.code yX5_phraseNumbered cX5_phraseNumbered 2 (some (.object "CopyReplace$Phrase")) ∈ gw := gw_of (w := Cond.code yX5_phraseNumbered cX5_phraseNumbered 2 (some (.object "CopyReplace$Phrase"))) (by decide +kernel) (by decide +kernel)
theorem wd_128 : Cond.methodLink RX5 99 yX5_phraseNumbered ∈ gw := gw_of (w := Cond.methodLink RX5 99 yX5_phraseNumbered) (by decide +kernel) (by decide +kernel)
theorem wd_129 : Cond.instanceMethod yX5_phraseNumbered ∈ gw := gw_of (w := Cond.instanceMethod yX5_phraseNumbered) (by decide +kernel) (by decide +kernel)
theorem wd_130 : Cond.selects RX5 yX5_phraseNumbered yX5_phraseNumbered ∈ gw := gw_of (w := Cond.selects RX5 yX5_phraseNumbered yX5_phraseNumbered) (by decide +kernel) (by decide +kernel)
theorem vqX5_99 : VQ RX5 99 yX5_phraseNumbered cX5_phraseNumbered 2 (some (.object "CopyReplace$Phrase")) 6 1 := ⟨⟨wd_128, wd_129, wd_130, wd_84, wd_127⟩, ⟨_, rfl, rfl⟩, by decide, by decide, by decide +kernel, by decide +kernel, by decide +kernel, by decide⟩
theorem wd_131 : Cond.fieldLink RX5 103 (TX0 1).1 (TX0 1).2.1 (TX0 1).2.2.1 ∈ gw := gw_of (w := Cond.fieldLink RX5 103 (TX0 1).1 (TX0 1).2.1 (TX0 1).2.2.1) (by decide +kernel) (by decide +kernel)
theorem fqX5_103 : FQ RX5 103 1 1 false (.int) true := ⟨by decide, by decide, RX0, TX0, 4, tyX0, rfl, igX0, by decide, rfl, wd_131, rfl, tyX0_ok, nmX0, rfl, by decide +kernel, rfl⟩
theorem wd_132 : Cond.methodLink RX5 106 yX4_isFull ∈ gw := gw_of (w := Cond.methodLink RX5 106 yX4_isFull) (by decide +kernel) (by decide +kernel)
theorem vqX5_106 : VQ RX5 106 yX4_isFull cX4_isFull 1 (some .boolean) 5 0 := ⟨⟨wd_132, wd_60, wd_61, wd_5, wd_58⟩, ⟨_, rfl, rfl⟩, by decide, by decide, by decide +kernel, by decide +kernel, by decide +kernel, by decide⟩
theorem wd_133 : Cond.fieldLink RX5 110 (TX4 1).1 (TX4 1).2.1 (TX4 1).2.2.1 ∈ gw := gw_of (w := Cond.fieldLink RX5 110 (TX4 1).1 (TX4 1).2.1 (TX4 1).2.2.1) (by decide +kernel) (by decide +kernel)
theorem fqX5_110 : FQ RX5 110 5 1 false (.int) false := ⟨by decide, by decide, RX4, TX4, 2, tyX4, rfl, igX4, by decide, rfl, wd_133, rfl, tyX4_ok, nmX4, rfl, by decide +kernel, rfl⟩
theorem wd_134 : Cond.fieldLink RX5 111 (TX0 3).1 (TX0 3).2.1 (TX0 3).2.2.1 ∈ gw := gw_of (w := Cond.fieldLink RX5 111 (TX0 3).1 (TX0 3).2.1 (TX0 3).2.2.1) (by decide +kernel) (by decide +kernel)
theorem fqX5_111 : FQ RX5 111 1 3 true (.object "CopyReplace$Words") true := ⟨by decide, by decide, RX0, TX0, 4, tyX0, rfl, igX0, by decide, rfl, wd_134, rfl, tyX0_ok, nmX0, rfl, by decide +kernel, rfl⟩
theorem wd_135 : Cond.code yX1_clear cX1_clear 1 none ∈ gw := gw_of (w := Cond.code yX1_clear cX1_clear 1 none) (by decide +kernel) (by decide +kernel)
theorem wd_136 : Cond.methodLink RX5 114 yX1_clear ∈ gw := gw_of (w := Cond.methodLink RX5 114 yX1_clear) (by decide +kernel) (by decide +kernel)
theorem wd_137 : Cond.instanceMethod yX1_clear ∈ gw := gw_of (w := Cond.instanceMethod yX1_clear) (by decide +kernel) (by decide +kernel)
theorem wd_138 : Cond.selects RX1 yX1_clear yX1_clear ∈ gw := gw_of (w := Cond.selects RX1 yX1_clear yX1_clear) (by decide +kernel) (by decide +kernel)
theorem vqX5_114 : VQ RX5 114 yX1_clear cX1_clear 1 none 2 0 := ⟨⟨wd_136, wd_137, wd_138, wd_24, wd_135⟩, ⟨_, rfl, rfl⟩, by decide, by decide, by decide +kernel, by decide +kernel, by decide +kernel, by decide⟩
theorem wd_139 : Cond.fieldLink RX5 117 (TX5 10).1 (TX5 10).2.1 (TX5 10).2.2.1 ∈ gw := gw_of (w := Cond.fieldLink RX5 117 (TX5 10).1 (TX5 10).2.1 (TX5 10).2.2.1) (by decide +kernel) (by decide +kernel)
theorem fqX5_117 : FQ RX5 117 6 10 false (.int) false := ⟨by decide, by decide, RX5, TX5, 13, tyX5, rfl, igX5, by decide, rfl, wd_139, rfl, tyX5_ok, nmX5, rfl, by decide +kernel, rfl⟩
theorem wd_140 : Cond.fieldLink RX5 120 (TX5 11).1 (TX5 11).2.1 (TX5 11).2.2.1 ∈ gw := gw_of (w := Cond.fieldLink RX5 120 (TX5 11).1 (TX5 11).2.1 (TX5 11).2.2.1) (by decide +kernel) (by decide +kernel)
theorem fqX5_120 : FQ RX5 120 6 11 false (.int) false := ⟨by decide, by decide, RX5, TX5, 13, tyX5, rfl, igX5, by decide, rfl, wd_140, rfl, tyX5_ok, nmX5, rfl, by decide +kernel, rfl⟩
theorem wd_141 : Cond.fieldLink RX5 123 (TX5 12).1 (TX5 12).2.1 (TX5 12).2.2.1 ∈ gw := gw_of (w := Cond.fieldLink RX5 123 (TX5 12).1 (TX5 12).2.1 (TX5 12).2.2.1) (by decide +kernel) (by decide +kernel)
theorem fqX5_123 : FQ RX5 123 6 12 false (.int) false := ⟨by decide, by decide, RX5, TX5, 13, tyX5, rfl, igX5, by decide, rfl, wd_141, rfl, tyX5_ok, nmX5, rfl, by decide +kernel, rfl⟩
theorem wd_142 : Cond.fieldLink RX5 126 (TX1 6).1 (TX1 6).2.1 (TX1 6).2.2.1 ∈ gw := gw_of (w := Cond.fieldLink RX5 126 (TX1 6).1 (TX1 6).2.1 (TX1 6).2.2.1) (by decide +kernel) (by decide +kernel)
theorem fqX5_126 : FQ RX5 126 2 6 false (.int) false := ⟨by decide, by decide, RX1, TX1, 7, tyX1, rfl, igX1, by decide, rfl, wd_142, rfl, tyX1_ok, nmX1, rfl, by decide +kernel, rfl⟩
theorem wd_143 : Cond.code yX5_makeRow cX5_makeRow 8 (some .int) ∈ gw := gw_of (w := Cond.code yX5_makeRow cX5_makeRow 8 (some .int)) (by decide +kernel) (by decide +kernel)
theorem wd_144 : Cond.methodLink RX5 127 yX5_makeRow ∈ gw := gw_of (w := Cond.methodLink RX5 127 yX5_makeRow) (by decide +kernel) (by decide +kernel)
theorem wd_145 : Cond.instanceMethod yX5_makeRow ∈ gw := gw_of (w := Cond.instanceMethod yX5_makeRow) (by decide +kernel) (by decide +kernel)
theorem wd_146 : Cond.selects RX5 yX5_makeRow yX5_makeRow ∈ gw := gw_of (w := Cond.selects RX5 yX5_makeRow yX5_makeRow) (by decide +kernel) (by decide +kernel)
theorem vqX5_127 : VQ RX5 127 yX5_makeRow cX5_makeRow 8 (some .int) 6 3 := ⟨⟨wd_144, wd_145, wd_146, wd_84, wd_143⟩, ⟨_, rfl, rfl⟩, by decide, by decide, by decide +kernel, by decide +kernel, by decide +kernel, by decide⟩
theorem wd_147 : Cond.fieldLink RX5 131 (TX3 2).1 (TX3 2).2.1 (TX3 2).2.2.1 ∈ gw := gw_of (w := Cond.fieldLink RX5 131 (TX3 2).1 (TX3 2).2.1 (TX3 2).2.2.1) (by decide +kernel) (by decide +kernel)
theorem fqX5_131 : FQ RX5 131 4 2 true (.object "CopyReplace$Row") true := ⟨by decide, by decide, RX3, TX3, 5, tyX3, rfl, igX3, by decide, rfl, wd_147, rfl, tyX3_ok, nmX3, rfl, by decide +kernel, rfl⟩
theorem wd_148 : Cond.code yX5_matchByReplaces cX5_matchByReplaces 7 (some .int) ∈ gw := gw_of (w := Cond.code yX5_matchByReplaces cX5_matchByReplaces 7 (some .int)) (by decide +kernel) (by decide +kernel)
theorem wd_149 : Cond.methodLink RX5 134 yX5_matchByReplaces ∈ gw := gw_of (w := Cond.methodLink RX5 134 yX5_matchByReplaces) (by decide +kernel) (by decide +kernel)
theorem wd_150 : Cond.instanceMethod yX5_matchByReplaces ∈ gw := gw_of (w := Cond.instanceMethod yX5_matchByReplaces) (by decide +kernel) (by decide +kernel)
theorem wd_151 : Cond.selects RX5 yX5_matchByReplaces yX5_matchByReplaces ∈ gw := gw_of (w := Cond.selects RX5 yX5_matchByReplaces yX5_matchByReplaces) (by decide +kernel) (by decide +kernel)
theorem vqX5_134 : VQ RX5 134 yX5_matchByReplaces cX5_matchByReplaces 7 (some .int) 6 1 := ⟨⟨wd_149, wd_150, wd_151, wd_84, wd_148⟩, ⟨_, rfl, rfl⟩, by decide, by decide, by decide +kernel, by decide +kernel, by decide +kernel, by decide⟩
theorem wd_152 : Cond.methodLink RX5 138 yX1_has ∈ gw := gw_of (w := Cond.methodLink RX5 138 yX1_has) (by decide +kernel) (by decide +kernel)
theorem vqX5_138 : VQ RX5 138 yX1_has cX1_has 2 (some .boolean) 2 1 := ⟨⟨wd_152, wd_22, wd_23, wd_24, wd_20⟩, ⟨_, rfl, rfl⟩, by decide, by decide, by decide +kernel, by decide +kernel, by decide +kernel, by decide⟩
theorem wd_153 : Cond.code yX1_code cX1_code 2 (some .int) ∈ gw := gw_of (w := Cond.code yX1_code cX1_code 2 (some .int)) (by decide +kernel) (by decide +kernel)
theorem wd_154 : Cond.methodLink RX5 144 yX1_code ∈ gw := gw_of (w := Cond.methodLink RX5 144 yX1_code) (by decide +kernel) (by decide +kernel)
theorem wd_155 : Cond.instanceMethod yX1_code ∈ gw := gw_of (w := Cond.instanceMethod yX1_code) (by decide +kernel) (by decide +kernel)
theorem wd_156 : Cond.selects RX1 yX1_code yX1_code ∈ gw := gw_of (w := Cond.selects RX1 yX1_code yX1_code) (by decide +kernel) (by decide +kernel)
theorem vqX5_144 : VQ RX5 144 yX1_code cX1_code 2 (some .int) 2 1 := ⟨⟨wd_154, wd_155, wd_156, wd_24, wd_153⟩, ⟨_, rfl, rfl⟩, by decide, by decide, by decide +kernel, by decide +kernel, by decide +kernel, by decide⟩
theorem wd_157 : Cond.fieldLink RX5 148 (TX1 1).1 (TX1 1).2.1 (TX1 1).2.2.1 ∈ gw := gw_of (w := Cond.fieldLink RX5 148 (TX1 1).1 (TX1 1).2.1 (TX1 1).2.2.1) (by decide +kernel) (by decide +kernel)
theorem fqX5_148 : FQ RX5 148 2 1 true (.array .int) true := ⟨by decide, by decide, RX1, TX1, 7, tyX1, rfl, igX1, by decide, rfl, wd_157, rfl, tyX1_ok, nmX1, rfl, by decide +kernel, rfl⟩
theorem wd_158 : Cond.fieldLink RX5 150 (TX1 2).1 (TX1 2).2.1 (TX1 2).2.2.1 ∈ gw := gw_of (w := Cond.fieldLink RX5 150 (TX1 2).1 (TX1 2).2.1 (TX1 2).2.2.1) (by decide +kernel) (by decide +kernel)
theorem fqX5_150 : FQ RX5 150 2 2 true (.array .int) true := ⟨by decide, by decide, RX1, TX1, 7, tyX1, rfl, igX1, by decide, rfl, wd_158, rfl, tyX1_ok, nmX1, rfl, by decide +kernel, rfl⟩
theorem wd_159 : Cond.fieldLink RX5 153 (TX1 3).1 (TX1 3).2.1 (TX1 3).2.2.1 ∈ gw := gw_of (w := Cond.fieldLink RX5 153 (TX1 3).1 (TX1 3).2.1 (TX1 3).2.2.1) (by decide +kernel) (by decide +kernel)
theorem fqX5_153 : FQ RX5 153 2 3 true (.array .int) true := ⟨by decide, by decide, RX1, TX1, 7, tyX1, rfl, igX1, by decide, rfl, wd_159, rfl, tyX1_ok, nmX1, rfl, by decide +kernel, rfl⟩
theorem wd_160 : Cond.fieldLink RX5 155 (TX1 5).1 (TX1 5).2.1 (TX1 5).2.2.1 ∈ gw := gw_of (w := Cond.fieldLink RX5 155 (TX1 5).1 (TX1 5).2.1 (TX1 5).2.2.1) (by decide +kernel) (by decide +kernel)
theorem fqX5_155 : FQ RX5 155 2 5 true (.array .boolean) true := ⟨by decide, by decide, RX1, TX1, 7, tyX1, rfl, igX1, by decide, rfl, wd_160, rfl, tyX1_ok, nmX1, rfl, by decide +kernel, rfl⟩
theorem wd_161 : Cond.fieldLink RX5 159 (TX1 4).1 (TX1 4).2.1 (TX1 4).2.2.1 ∈ gw := gw_of (w := Cond.fieldLink RX5 159 (TX1 4).1 (TX1 4).2.1 (TX1 4).2.2.1) (by decide +kernel) (by decide +kernel)
theorem fqX5_159 : FQ RX5 159 2 4 true (.array .int) true := ⟨by decide, by decide, RX1, TX1, 7, tyX1, rfl, igX1, by decide, rfl, wd_161, rfl, tyX1_ok, nmX1, rfl, by decide +kernel, rfl⟩
theorem wd_162 : Cond.fieldLink RX5 162 (TX5 4).1 (TX5 4).2.1 (TX5 4).2.2.1 ∈ gw := gw_of (w := Cond.fieldLink RX5 162 (TX5 4).1 (TX5 4).2.1 (TX5 4).2.2.1) (by decide +kernel) (by decide +kernel)
theorem fqX5_162 : FQ RX5 162 6 4 false (.int) false := ⟨by decide, by decide, RX5, TX5, 13, tyX5, rfl, igX5, by decide, rfl, wd_162, rfl, tyX5_ok, nmX5, rfl, by decide +kernel, rfl⟩
theorem wd_163 : Cond.classLink RX5 15 RX2 ∈ gw := gw_of (w := Cond.classLink RX5 15 RX2) (by decide +kernel) (by decide +kernel)
theorem wd_164 : Cond.instantiable RX2 6 ∈ gw := gw_of (w := Cond.instantiable RX2 6) (by decide +kernel) (by decide +kernel)
theorem nqX5_15 : NQ RX5 15 3 6 := ⟨by decide, by decide, RX2, TX2, tyX2, rfl, igX2, rfl, tyX2_ok, wd_163, wd_164, wd_125, by decide +kernel⟩
theorem wd_165 : Cond.code yX2_init cX2_init 5 none ∈ gw := gw_of (w := Cond.code yX2_init cX2_init 5 none) (by decide +kernel) (by decide +kernel)
theorem wd_166 : Cond.methodLink RX5 165 yX2_init ∈ gw := gw_of (w := Cond.methodLink RX5 165 yX2_init) (by decide +kernel) (by decide +kernel)
theorem wd_167 : Cond.instanceMethod yX2_init ∈ gw := gw_of (w := Cond.instanceMethod yX2_init) (by decide +kernel) (by decide +kernel)
theorem iqX5_165 : IQ RX5 165 yX2_init cX2_init 5 4 := ⟨⟨wd_166, wd_167, wd_125, wd_165⟩, rfl, by decide +kernel, by decide +kernel, by decide +kernel, by decide⟩
theorem wd_168 : Cond.fieldLink RX5 168 (TX2 0).1 (TX2 0).2.1 (TX2 0).2.2.1 ∈ gw := gw_of (w := Cond.fieldLink RX5 168 (TX2 0).1 (TX2 0).2.1 (TX2 0).2.2.1) (by decide +kernel) (by decide +kernel)
theorem fqX5_168 : FQ RX5 168 3 0 false (.int) true := ⟨by decide, by decide, RX2, TX2, 6, tyX2, rfl, igX2, by decide, rfl, wd_168, rfl, tyX2_ok, nmX2, rfl, by decide +kernel, rfl⟩
theorem wd_169 : Cond.fieldLink RX5 169 (TX3 1).1 (TX3 1).2.1 (TX3 1).2.2.1 ∈ gw := gw_of (w := Cond.fieldLink RX5 169 (TX3 1).1 (TX3 1).2.1 (TX3 1).2.2.1) (by decide +kernel) (by decide +kernel)
theorem fqX5_169 : FQ RX5 169 4 1 false (.int) true := ⟨by decide, by decide, RX3, TX3, 5, tyX3, rfl, igX3, by decide, rfl, wd_169, rfl, tyX3_ok, nmX3, rfl, by decide +kernel, rfl⟩
theorem wd_170 : Cond.code yX3_entry cX3_entry 2 (some .int) ∈ gw := gw_of (w := Cond.code yX3_entry cX3_entry 2 (some .int)) (by decide +kernel) (by decide +kernel)
theorem wd_171 : Cond.methodLink RX5 172 yX3_entry ∈ gw := gw_of (w := Cond.methodLink RX5 172 yX3_entry) (by decide +kernel) (by decide +kernel)
theorem wd_172 : Cond.instanceMethod yX3_entry ∈ gw := gw_of (w := Cond.instanceMethod yX3_entry) (by decide +kernel) (by decide +kernel)
theorem wd_173 : Cond.selects RX3 yX3_entry yX3_entry ∈ gw := gw_of (w := Cond.selects RX3 yX3_entry yX3_entry) (by decide +kernel) (by decide +kernel)
theorem vqX5_172 : VQ RX5 172 yX3_entry cX3_entry 2 (some .int) 4 1 := ⟨⟨wd_171, wd_172, wd_173, wd_76, wd_170⟩, ⟨_, rfl, rfl⟩, by decide, by decide, by decide +kernel, by decide +kernel, by decide +kernel, by decide⟩
theorem wd_174 : Cond.code yX5_statementOf cX5_statementOf 2 (some (.object "CopyReplace$Statement")) ∈ gw := gw_of (w := Cond.code yX5_statementOf cX5_statementOf 2 (some (.object "CopyReplace$Statement"))) (by decide +kernel) (by decide +kernel)
theorem wd_175 : Cond.methodLink RX5 175 yX5_statementOf ∈ gw := gw_of (w := Cond.methodLink RX5 175 yX5_statementOf) (by decide +kernel) (by decide +kernel)
theorem wd_176 : Cond.instanceMethod yX5_statementOf ∈ gw := gw_of (w := Cond.instanceMethod yX5_statementOf) (by decide +kernel) (by decide +kernel)
theorem wd_177 : Cond.selects RX5 yX5_statementOf yX5_statementOf ∈ gw := gw_of (w := Cond.selects RX5 yX5_statementOf yX5_statementOf) (by decide +kernel) (by decide +kernel)
theorem vqX5_175 : VQ RX5 175 yX5_statementOf cX5_statementOf 2 (some (.object "CopyReplace$Statement")) 6 1 := ⟨⟨wd_175, wd_176, wd_177, wd_84, wd_174⟩, ⟨_, rfl, rfl⟩, by decide, by decide, by decide +kernel, by decide +kernel, by decide +kernel, by decide⟩
theorem wd_178 : Cond.fieldLink RX5 178 (TX2 1).1 (TX2 1).2.1 (TX2 1).2.2.1 ∈ gw := gw_of (w := Cond.fieldLink RX5 178 (TX2 1).1 (TX2 1).2.1 (TX2 1).2.2.1) (by decide +kernel) (by decide +kernel)
theorem fqX5_178 : FQ RX5 178 3 1 false (.boolean) true := ⟨by decide, by decide, RX2, TX2, 6, tyX2, rfl, igX2, by decide, rfl, wd_178, rfl, tyX2_ok, nmX2, rfl, by decide +kernel, rfl⟩
theorem wd_179 : Cond.code yX5_addCopy cX5_addCopy 7 (some .int) ∈ gw := gw_of (w := Cond.code yX5_addCopy cX5_addCopy 7 (some .int)) (by decide +kernel) (by decide +kernel)
theorem wd_180 : Cond.methodLink RX5 182 yX5_addCopy ∈ gw := gw_of (w := Cond.methodLink RX5 182 yX5_addCopy) (by decide +kernel) (by decide +kernel)
theorem wd_181 : Cond.instanceMethod yX5_addCopy ∈ gw := gw_of (w := Cond.instanceMethod yX5_addCopy) (by decide +kernel) (by decide +kernel)
theorem wd_182 : Cond.selects RX5 yX5_addCopy yX5_addCopy ∈ gw := gw_of (w := Cond.selects RX5 yX5_addCopy yX5_addCopy) (by decide +kernel) (by decide +kernel)
theorem vqX5_182 : VQ RX5 182 yX5_addCopy cX5_addCopy 7 (some .int) 6 4 := ⟨⟨wd_180, wd_181, wd_182, wd_84, wd_179⟩, ⟨_, rfl, rfl⟩, by decide, by decide, by decide +kernel, by decide +kernel, by decide +kernel, by decide⟩
theorem wd_183 : Cond.fieldLink RX5 186 (TX3 0).1 (TX3 0).2.1 (TX3 0).2.2.1 ∈ gw := gw_of (w := Cond.fieldLink RX5 186 (TX3 0).1 (TX3 0).2.1 (TX3 0).2.2.1) (by decide +kernel) (by decide +kernel)
theorem fqX5_186 : FQ RX5 186 4 0 false (.int) true := ⟨by decide, by decide, RX3, TX3, 5, tyX3, rfl, igX3, by decide, rfl, wd_183, rfl, tyX3_ok, nmX3, rfl, by decide +kernel, rfl⟩
theorem wd_184 : Cond.methodLink RX5 187 yX1_addEntry ∈ gw := gw_of (w := Cond.methodLink RX5 187 yX1_addEntry) (by decide +kernel) (by decide +kernel)
theorem vqX5_187 : VQ RX5 187 yX1_addEntry cX1_addEntry 6 (some .boolean) 2 5 := ⟨⟨wd_184, wd_31, wd_32, wd_24, wd_29⟩, ⟨_, rfl, rfl⟩, by decide, by decide, by decide +kernel, by decide +kernel, by decide +kernel, by decide⟩
theorem wd_185 : Cond.fieldLink RX5 191 (TX2 2).1 (TX2 2).2.1 (TX2 2).2.2.1 ∈ gw := gw_of (w := Cond.fieldLink RX5 191 (TX2 2).1 (TX2 2).2.1 (TX2 2).2.2.1) (by decide +kernel) (by decide +kernel)
theorem fqX5_191 : FQ RX5 191 3 2 false (.int) true := ⟨by decide, by decide, RX2, TX2, 6, tyX2, rfl, igX2, by decide, rfl, wd_185, rfl, tyX2_ok, nmX2, rfl, by decide +kernel, rfl⟩
theorem wd_186 : Cond.code yX5_textNamed cX5_textNamed 4 (some (.object "CopyReplace$Text")) ∈ gw := gw_of (w := Cond.code yX5_textNamed cX5_textNamed 4 (some (.object "CopyReplace$Text"))) (by decide +kernel) (by decide +kernel)
theorem wd_187 : Cond.methodLink RX5 192 yX5_textNamed ∈ gw := gw_of (w := Cond.methodLink RX5 192 yX5_textNamed) (by decide +kernel) (by decide +kernel)
theorem wd_188 : Cond.instanceMethod yX5_textNamed ∈ gw := gw_of (w := Cond.instanceMethod yX5_textNamed) (by decide +kernel) (by decide +kernel)
theorem wd_189 : Cond.selects RX5 yX5_textNamed yX5_textNamed ∈ gw := gw_of (w := Cond.selects RX5 yX5_textNamed yX5_textNamed) (by decide +kernel) (by decide +kernel)
theorem vqX5_192 : VQ RX5 192 yX5_textNamed cX5_textNamed 4 (some (.object "CopyReplace$Text")) 6 1 := ⟨⟨wd_187, wd_188, wd_189, wd_84, wd_186⟩, ⟨_, rfl, rfl⟩, by decide, by decide, by decide +kernel, by decide +kernel, by decide +kernel, by decide⟩
theorem wd_190 : Cond.code yX5_closesRing cX5_closesRing 5 (some .boolean) ∈ gw := gw_of (w := Cond.code yX5_closesRing cX5_closesRing 5 (some .boolean)) (by decide +kernel) (by decide +kernel)
theorem wd_191 : Cond.methodLink RX5 195 yX5_closesRing ∈ gw := gw_of (w := Cond.methodLink RX5 195 yX5_closesRing) (by decide +kernel) (by decide +kernel)
theorem wd_192 : Cond.instanceMethod yX5_closesRing ∈ gw := gw_of (w := Cond.instanceMethod yX5_closesRing) (by decide +kernel) (by decide +kernel)
theorem wd_193 : Cond.selects RX5 yX5_closesRing yX5_closesRing ∈ gw := gw_of (w := Cond.selects RX5 yX5_closesRing yX5_closesRing) (by decide +kernel) (by decide +kernel)
theorem vqX5_195 : VQ RX5 195 yX5_closesRing cX5_closesRing 5 (some .boolean) 6 2 := ⟨⟨wd_191, wd_192, wd_193, wd_84, wd_190⟩, ⟨_, rfl, rfl⟩, by decide, by decide, by decide +kernel, by decide +kernel, by decide +kernel, by decide⟩
theorem wd_194 : Cond.fieldLink RX5 199 (TX2 3).1 (TX2 3).2.1 (TX2 3).2.2.1 ∈ gw := gw_of (w := Cond.fieldLink RX5 199 (TX2 3).1 (TX2 3).2.1 (TX2 3).2.2.1) (by decide +kernel) (by decide +kernel)
theorem fqX5_199 : FQ RX5 199 3 3 false (.boolean) true := ⟨by decide, by decide, RX2, TX2, 6, tyX2, rfl, igX2, by decide, rfl, wd_194, rfl, tyX2_ok, nmX2, rfl, by decide +kernel, rfl⟩
theorem wd_195 : Cond.code yX5_matchPart cX5_matchPart 8 (some .int) ∈ gw := gw_of (w := Cond.code yX5_matchPart cX5_matchPart 8 (some .int)) (by decide +kernel) (by decide +kernel)
theorem wd_196 : Cond.methodLink RX5 201 yX5_matchPart ∈ gw := gw_of (w := Cond.methodLink RX5 201 yX5_matchPart) (by decide +kernel) (by decide +kernel)
theorem wd_197 : Cond.instanceMethod yX5_matchPart ∈ gw := gw_of (w := Cond.instanceMethod yX5_matchPart) (by decide +kernel) (by decide +kernel)
theorem wd_198 : Cond.selects RX5 yX5_matchPart yX5_matchPart ∈ gw := gw_of (w := Cond.selects RX5 yX5_matchPart yX5_matchPart) (by decide +kernel) (by decide +kernel)
theorem vqX5_201 : VQ RX5 201 yX5_matchPart cX5_matchPart 8 (some .int) 6 5 := ⟨⟨wd_196, wd_197, wd_198, wd_84, wd_195⟩, ⟨_, rfl, rfl⟩, by decide, by decide, by decide +kernel, by decide +kernel, by decide +kernel, by decide⟩
theorem wd_199 : Cond.code yX1_addAll cX1_addAll 3 (some .boolean) ∈ gw := gw_of (w := Cond.code yX1_addAll cX1_addAll 3 (some .boolean)) (by decide +kernel) (by decide +kernel)
theorem wd_200 : Cond.methodLink RX5 205 yX1_addAll ∈ gw := gw_of (w := Cond.methodLink RX5 205 yX1_addAll) (by decide +kernel) (by decide +kernel)
theorem wd_201 : Cond.instanceMethod yX1_addAll ∈ gw := gw_of (w := Cond.instanceMethod yX1_addAll) (by decide +kernel) (by decide +kernel)
theorem wd_202 : Cond.selects RX1 yX1_addAll yX1_addAll ∈ gw := gw_of (w := Cond.selects RX1 yX1_addAll yX1_addAll) (by decide +kernel) (by decide +kernel)
theorem vqX5_205 : VQ RX5 205 yX1_addAll cX1_addAll 3 (some .boolean) 2 1 := ⟨⟨wd_200, wd_201, wd_202, wd_24, wd_199⟩, ⟨_, rfl, rfl⟩, by decide, by decide, by decide +kernel, by decide +kernel, by decide +kernel, by decide⟩
theorem wd_203 : Cond.code yX5_keepRingName cX5_keepRingName 2 none ∈ gw := gw_of (w := Cond.code yX5_keepRingName cX5_keepRingName 2 none) (by decide +kernel) (by decide +kernel)
theorem wd_204 : Cond.methodLink RX5 209 yX5_keepRingName ∈ gw := gw_of (w := Cond.methodLink RX5 209 yX5_keepRingName) (by decide +kernel) (by decide +kernel)
theorem wd_205 : Cond.instanceMethod yX5_keepRingName ∈ gw := gw_of (w := Cond.instanceMethod yX5_keepRingName) (by decide +kernel) (by decide +kernel)
theorem wd_206 : Cond.selects RX5 yX5_keepRingName yX5_keepRingName ∈ gw := gw_of (w := Cond.selects RX5 yX5_keepRingName yX5_keepRingName) (by decide +kernel) (by decide +kernel)
theorem vqX5_209 : VQ RX5 209 yX5_keepRingName cX5_keepRingName 2 none 6 1 := ⟨⟨wd_204, wd_205, wd_206, wd_84, wd_203⟩, ⟨_, rfl, rfl⟩, by decide, by decide, by decide +kernel, by decide +kernel, by decide +kernel, by decide⟩
theorem wd_207 : Cond.code yX5_matchAt cX5_matchAt 11 (some .int) ∈ gw := gw_of (w := Cond.code yX5_matchAt cX5_matchAt 11 (some .int)) (by decide +kernel) (by decide +kernel)
theorem wd_208 : Cond.methodLink RX5 213 yX5_matchAt ∈ gw := gw_of (w := Cond.methodLink RX5 213 yX5_matchAt) (by decide +kernel) (by decide +kernel)
theorem wd_209 : Cond.instanceMethod yX5_matchAt ∈ gw := gw_of (w := Cond.instanceMethod yX5_matchAt) (by decide +kernel) (by decide +kernel)
theorem wd_210 : Cond.selects RX5 yX5_matchAt yX5_matchAt ∈ gw := gw_of (w := Cond.selects RX5 yX5_matchAt yX5_matchAt) (by decide +kernel) (by decide +kernel)
theorem vqX5_213 : VQ RX5 213 yX5_matchAt cX5_matchAt 11 (some .int) 6 5 := ⟨⟨wd_208, wd_209, wd_210, wd_84, wd_207⟩, ⟨_, rfl, rfl⟩, by decide, by decide, by decide +kernel, by decide +kernel, by decide +kernel, by decide⟩
theorem wd_211 : Cond.code yX2_get cX2_get 2 (some (.object "CopyReplace$Phrase")) ∈ gw := gw_of (w := Cond.code yX2_get cX2_get 2 (some (.object "CopyReplace$Phrase"))) (by decide +kernel) (by decide +kernel)
theorem wd_212 : Cond.methodLink RX5 216 yX2_get ∈ gw := gw_of (w := Cond.methodLink RX5 216 yX2_get) (by decide +kernel) (by decide +kernel)
theorem wd_213 : Cond.instanceMethod yX2_get ∈ gw := gw_of (w := Cond.instanceMethod yX2_get) (by decide +kernel) (by decide +kernel)
theorem wd_214 : Cond.selects RX2 yX2_get yX2_get ∈ gw := gw_of (w := Cond.selects RX2 yX2_get yX2_get) (by decide +kernel) (by decide +kernel)
theorem vqX5_216 : VQ RX5 216 yX2_get cX2_get 2 (some (.object "CopyReplace$Phrase")) 3 1 := ⟨⟨wd_212, wd_213, wd_214, wd_125, wd_211⟩, ⟨_, rfl, rfl⟩, by decide, by decide, by decide +kernel, by decide +kernel, by decide +kernel, by decide⟩
theorem wd_215 : Cond.code yX5_behindMatch cX5_behindMatch 7 (some .int) ∈ gw := gw_of (w := Cond.code yX5_behindMatch cX5_behindMatch 7 (some .int)) (by decide +kernel) (by decide +kernel)
theorem wd_216 : Cond.methodLink RX5 219 yX5_behindMatch ∈ gw := gw_of (w := Cond.methodLink RX5 219 yX5_behindMatch) (by decide +kernel) (by decide +kernel)
theorem wd_217 : Cond.static yX5_behindMatch ∈ gw := gw_of (w := Cond.static yX5_behindMatch) (by decide +kernel) (by decide +kernel)
theorem sqX5_219 : SQ RX5 219 yX5_behindMatch cX5_behindMatch 7 (some .int) 4 := ⟨⟨wd_216, wd_217, wd_84, wd_215⟩, rfl, by decide +kernel, by decide +kernel, by decide +kernel, by decide⟩
theorem wd_218 : Cond.code yX5_put cX5_put 5 (some .int) ∈ gw := gw_of (w := Cond.code yX5_put cX5_put 5 (some .int)) (by decide +kernel) (by decide +kernel)
theorem wd_219 : Cond.methodLink RX5 223 yX5_put ∈ gw := gw_of (w := Cond.methodLink RX5 223 yX5_put) (by decide +kernel) (by decide +kernel)
theorem wd_220 : Cond.static yX5_put ∈ gw := gw_of (w := Cond.static yX5_put) (by decide +kernel) (by decide +kernel)
theorem sqX5_223 : SQ RX5 223 yX5_put cX5_put 5 (some .int) 4 := ⟨⟨wd_219, wd_220, wd_84, wd_218⟩, rfl, by decide +kernel, by decide +kernel, by decide +kernel, by decide⟩
theorem wd_221 : Cond.methodLink RX5 227 yX1_addSame ∈ gw := gw_of (w := Cond.methodLink RX5 227 yX1_addSame) (by decide +kernel) (by decide +kernel)
theorem vqX5_227 : VQ RX5 227 yX1_addSame cX1_addSame 3 (some .boolean) 2 2 := ⟨⟨wd_221, wd_35, wd_36, wd_24, wd_33⟩, ⟨_, rfl, rfl⟩, by decide, by decide, by decide +kernel, by decide +kernel, by decide +kernel, by decide⟩
theorem wd_222 : Cond.code yX5_hasPart cX5_hasPart 4 (some .boolean) ∈ gw := gw_of (w := Cond.code yX5_hasPart cX5_hasPart 4 (some .boolean)) (by decide +kernel) (by decide +kernel)
theorem wd_223 : Cond.methodLink RX5 231 yX5_hasPart ∈ gw := gw_of (w := Cond.methodLink RX5 231 yX5_hasPart) (by decide +kernel) (by decide +kernel)
theorem wd_224 : Cond.static yX5_hasPart ∈ gw := gw_of (w := Cond.static yX5_hasPart) (by decide +kernel) (by decide +kernel)
theorem sqX5_231 : SQ RX5 231 yX5_hasPart cX5_hasPart 4 (some .boolean) 2 := ⟨⟨wd_223, wd_224, wd_84, wd_222⟩, rfl, by decide +kernel, by decide +kernel, by decide +kernel, by decide⟩
theorem wd_225 : Cond.code yX4_get cX4_get 2 (some .int) ∈ gw := gw_of (w := Cond.code yX4_get cX4_get 2 (some .int)) (by decide +kernel) (by decide +kernel)
theorem wd_226 : Cond.methodLink RX5 235 yX4_get ∈ gw := gw_of (w := Cond.methodLink RX5 235 yX4_get) (by decide +kernel) (by decide +kernel)
theorem wd_227 : Cond.instanceMethod yX4_get ∈ gw := gw_of (w := Cond.instanceMethod yX4_get) (by decide +kernel) (by decide +kernel)
theorem wd_228 : Cond.selects RX4 yX4_get yX4_get ∈ gw := gw_of (w := Cond.selects RX4 yX4_get yX4_get) (by decide +kernel) (by decide +kernel)
theorem vqX5_235 : VQ RX5 235 yX4_get cX4_get 2 (some .int) 5 1 := ⟨⟨wd_226, wd_227, wd_228, wd_5, wd_225⟩, ⟨_, rfl, rfl⟩, by decide, by decide, by decide +kernel, by decide +kernel, by decide +kernel, by decide⟩
theorem wd_229 : Cond.code yX5_withPartChanged cX5_withPartChanged 5 (some .int) ∈ gw := gw_of (w := Cond.code yX5_withPartChanged cX5_withPartChanged 5 (some .int)) (by decide +kernel) (by decide +kernel)
theorem wd_230 : Cond.methodLink RX5 237 yX5_withPartChanged ∈ gw := gw_of (w := Cond.methodLink RX5 237 yX5_withPartChanged) (by decide +kernel) (by decide +kernel)
theorem wd_231 : Cond.static yX5_withPartChanged ∈ gw := gw_of (w := Cond.static yX5_withPartChanged) (by decide +kernel) (by decide +kernel)
theorem sqX5_237 : SQ RX5 237 yX5_withPartChanged cX5_withPartChanged 5 (some .int) 2 := ⟨⟨wd_230, wd_231, wd_84, wd_229⟩, rfl, by decide +kernel, by decide +kernel, by decide +kernel, by decide⟩
theorem wd_232 : Cond.methodLink RX5 241 yX1_addPut ∈ gw := gw_of (w := Cond.methodLink RX5 241 yX1_addPut) (by decide +kernel) (by decide +kernel)
theorem vqX5_241 : VQ RX5 241 yX1_addPut cX1_addPut 6 (some .boolean) 2 4 := ⟨⟨wd_232, wd_27, wd_28, wd_24, wd_25⟩, ⟨_, rfl, rfl⟩, by decide, by decide, by decide +kernel, by decide +kernel, by decide +kernel, by decide⟩
theorem wd_233 : Cond.code yX5_letters cX5_letters 3 (some .int) ∈ gw := gw_of (w := Cond.code yX5_letters cX5_letters 3 (some .int)) (by decide +kernel) (by decide +kernel)
theorem wd_234 : Cond.methodLink RX5 245 yX5_letters ∈ gw := gw_of (w := Cond.methodLink RX5 245 yX5_letters) (by decide +kernel) (by decide +kernel)
theorem wd_235 : Cond.static yX5_letters ∈ gw := gw_of (w := Cond.static yX5_letters) (by decide +kernel) (by decide +kernel)
theorem sqX5_245 : SQ RX5 245 yX5_letters cX5_letters 3 (some .int) 1 := ⟨⟨wd_234, wd_235, wd_84, wd_233⟩, rfl, by decide +kernel, by decide +kernel, by decide +kernel, by decide⟩
theorem wd_236 : Cond.code yX5_withoutLast cX5_withoutLast 4 (some .int) ∈ gw := gw_of (w := Cond.code yX5_withoutLast cX5_withoutLast 4 (some .int)) (by decide +kernel) (by decide +kernel)
theorem wd_237 : Cond.methodLink RX5 248 yX5_withoutLast ∈ gw := gw_of (w := Cond.methodLink RX5 248 yX5_withoutLast) (by decide +kernel) (by decide +kernel)
theorem wd_238 : Cond.static yX5_withoutLast ∈ gw := gw_of (w := Cond.static yX5_withoutLast) (by decide +kernel) (by decide +kernel)
theorem sqX5_248 : SQ RX5 248 yX5_withoutLast cX5_withoutLast 4 (some .int) 2 := ⟨⟨wd_237, wd_238, wd_84, wd_236⟩, rfl, by decide +kernel, by decide +kernel, by decide +kernel, by decide⟩
theorem wd_239 : Cond.code yX5_lastOf cX5_lastOf 6 (some .int) ∈ gw := gw_of (w := Cond.code yX5_lastOf cX5_lastOf 6 (some .int)) (by decide +kernel) (by decide +kernel)
theorem wd_240 : Cond.methodLink RX5 252 yX5_lastOf ∈ gw := gw_of (w := Cond.methodLink RX5 252 yX5_lastOf) (by decide +kernel) (by decide +kernel)
theorem wd_241 : Cond.static yX5_lastOf ∈ gw := gw_of (w := Cond.static yX5_lastOf) (by decide +kernel) (by decide +kernel)
theorem sqX5_252 : SQ RX5 252 yX5_lastOf cX5_lastOf 6 (some .int) 2 := ⟨⟨wd_240, wd_241, wd_84, wd_239⟩, rfl, by decide +kernel, by decide +kernel, by decide +kernel, by decide⟩
theorem wd_242 : Cond.code yX5_power cX5_power 3 (some .int) ∈ gw := gw_of (w := Cond.code yX5_power cX5_power 3 (some .int)) (by decide +kernel) (by decide +kernel)
theorem wd_243 : Cond.methodLink RX5 255 yX5_power ∈ gw := gw_of (w := Cond.methodLink RX5 255 yX5_power) (by decide +kernel) (by decide +kernel)
theorem wd_244 : Cond.static yX5_power ∈ gw := gw_of (w := Cond.static yX5_power) (by decide +kernel) (by decide +kernel)
theorem sqX5_255 : SQ RX5 255 yX5_power cX5_power 3 (some .int) 1 := ⟨⟨wd_243, wd_244, wd_84, wd_242⟩, rfl, by decide +kernel, by decide +kernel, by decide +kernel, by decide⟩
theorem wd_245 : Cond.methodLink RX6 1 Lib.objectInit ∈ gw := gw_of (w := Cond.methodLink RX6 1 Lib.objectInit) (by decide +kernel) (by decide +kernel)
theorem oqX6_1 : OQ RX6 1 := ⟨wd_245, wd_1, wd_2⟩
theorem wd_246 : Cond.fieldLink RX6 7 (TX6 4).1 (TX6 4).2.1 (TX6 4).2.2.1 ∈ gw := gw_of (w := Cond.fieldLink RX6 7 (TX6 4).1 (TX6 4).2.1 (TX6 4).2.2.1) (by decide +kernel) (by decide +kernel)
theorem fqX6_7 : FQ RX6 7 7 4 true (.array .int) true := ⟨by decide, by decide, RX6, TX6, 34, tyX6, rfl, igX6, by decide, rfl, wd_246, rfl, tyX6_ok, nmX6, rfl, by decide +kernel, rfl⟩
theorem wd_247 : Cond.fieldLink RX6 13 (TX6 5).1 (TX6 5).2.1 (TX6 5).2.2.1 ∈ gw := gw_of (w := Cond.fieldLink RX6 13 (TX6 5).1 (TX6 5).2.1 (TX6 5).2.2.1) (by decide +kernel) (by decide +kernel)
theorem fqX6_13 : FQ RX6 13 7 5 true (.array .int) true := ⟨by decide, by decide, RX6, TX6, 34, tyX6, rfl, igX6, by decide, rfl, wd_247, rfl, tyX6_ok, nmX6, rfl, by decide +kernel, rfl⟩
theorem wd_248 : Cond.fieldLink RX6 16 (TX6 6).1 (TX6 6).2.1 (TX6 6).2.2.1 ∈ gw := gw_of (w := Cond.fieldLink RX6 16 (TX6 6).1 (TX6 6).2.1 (TX6 6).2.2.1) (by decide +kernel) (by decide +kernel)
theorem fqX6_16 : FQ RX6 16 7 6 true (.array .int) true := ⟨by decide, by decide, RX6, TX6, 34, tyX6, rfl, igX6, by decide, rfl, wd_248, rfl, tyX6_ok, nmX6, rfl, by decide +kernel, rfl⟩
theorem wd_249 : Cond.fieldLink RX6 19 (TX6 7).1 (TX6 7).2.1 (TX6 7).2.2.1 ∈ gw := gw_of (w := Cond.fieldLink RX6 19 (TX6 7).1 (TX6 7).2.1 (TX6 7).2.2.1) (by decide +kernel) (by decide +kernel)
theorem fqX6_19 : FQ RX6 19 7 7 true (.array .int) true := ⟨by decide, by decide, RX6, TX6, 34, tyX6, rfl, igX6, by decide, rfl, wd_249, rfl, tyX6_ok, nmX6, rfl, by decide +kernel, rfl⟩
theorem wd_250 : Cond.fieldLink RX6 22 (TX6 8).1 (TX6 8).2.1 (TX6 8).2.2.1 ∈ gw := gw_of (w := Cond.fieldLink RX6 22 (TX6 8).1 (TX6 8).2.1 (TX6 8).2.2.1) (by decide +kernel) (by decide +kernel)
theorem fqX6_22 : FQ RX6 22 7 8 true (.array .int) true := ⟨by decide, by decide, RX6, TX6, 34, tyX6, rfl, igX6, by decide, rfl, wd_250, rfl, tyX6_ok, nmX6, rfl, by decide +kernel, rfl⟩
theorem wd_251 : Cond.fieldLink RX6 25 (TX6 9).1 (TX6 9).2.1 (TX6 9).2.2.1 ∈ gw := gw_of (w := Cond.fieldLink RX6 25 (TX6 9).1 (TX6 9).2.1 (TX6 9).2.2.1) (by decide +kernel) (by decide +kernel)
theorem fqX6_25 : FQ RX6 25 7 9 true (.array .int) true := ⟨by decide, by decide, RX6, TX6, 34, tyX6, rfl, igX6, by decide, rfl, wd_251, rfl, tyX6_ok, nmX6, rfl, by decide +kernel, rfl⟩
theorem wd_252 : Cond.fieldLink RX6 28 (TX6 10).1 (TX6 10).2.1 (TX6 10).2.2.1 ∈ gw := gw_of (w := Cond.fieldLink RX6 28 (TX6 10).1 (TX6 10).2.1 (TX6 10).2.2.1) (by decide +kernel) (by decide +kernel)
theorem fqX6_28 : FQ RX6 28 7 10 true (.array .boolean) true := ⟨by decide, by decide, RX6, TX6, 34, tyX6, rfl, igX6, by decide, rfl, wd_252, rfl, tyX6_ok, nmX6, rfl, by decide +kernel, rfl⟩
theorem wd_253 : Cond.fieldLink RX6 32 (TX6 11).1 (TX6 11).2.1 (TX6 11).2.2.1 ∈ gw := gw_of (w := Cond.fieldLink RX6 32 (TX6 11).1 (TX6 11).2.1 (TX6 11).2.2.1) (by decide +kernel) (by decide +kernel)
theorem fqX6_32 : FQ RX6 32 7 11 true (.array .boolean) true := ⟨by decide, by decide, RX6, TX6, 34, tyX6, rfl, igX6, by decide, rfl, wd_253, rfl, tyX6_ok, nmX6, rfl, by decide +kernel, rfl⟩
theorem wd_254 : Cond.fieldLink RX6 35 (TX6 12).1 (TX6 12).2.1 (TX6 12).2.2.1 ∈ gw := gw_of (w := Cond.fieldLink RX6 35 (TX6 12).1 (TX6 12).2.1 (TX6 12).2.2.1) (by decide +kernel) (by decide +kernel)
theorem fqX6_35 : FQ RX6 35 7 12 true (.array .int) true := ⟨by decide, by decide, RX6, TX6, 34, tyX6, rfl, igX6, by decide, rfl, wd_254, rfl, tyX6_ok, nmX6, rfl, by decide +kernel, rfl⟩
theorem wd_255 : Cond.fieldLink RX6 38 (TX6 13).1 (TX6 13).2.1 (TX6 13).2.2.1 ∈ gw := gw_of (w := Cond.fieldLink RX6 38 (TX6 13).1 (TX6 13).2.1 (TX6 13).2.2.1) (by decide +kernel) (by decide +kernel)
theorem fqX6_38 : FQ RX6 38 7 13 true (.array .int) true := ⟨by decide, by decide, RX6, TX6, 34, tyX6, rfl, igX6, by decide, rfl, wd_255, rfl, tyX6_ok, nmX6, rfl, by decide +kernel, rfl⟩
theorem wd_256 : Cond.fieldLink RX6 41 (TX6 14).1 (TX6 14).2.1 (TX6 14).2.2.1 ∈ gw := gw_of (w := Cond.fieldLink RX6 41 (TX6 14).1 (TX6 14).2.1 (TX6 14).2.2.1) (by decide +kernel) (by decide +kernel)
theorem fqX6_41 : FQ RX6 41 7 14 true (.array .int) true := ⟨by decide, by decide, RX6, TX6, 34, tyX6, rfl, igX6, by decide, rfl, wd_256, rfl, tyX6_ok, nmX6, rfl, by decide +kernel, rfl⟩
theorem wd_257 : Cond.fieldLink RX6 44 (TX6 15).1 (TX6 15).2.1 (TX6 15).2.2.1 ∈ gw := gw_of (w := Cond.fieldLink RX6 44 (TX6 15).1 (TX6 15).2.1 (TX6 15).2.2.1) (by decide +kernel) (by decide +kernel)
theorem fqX6_44 : FQ RX6 44 7 15 true (.array .int) true := ⟨by decide, by decide, RX6, TX6, 34, tyX6, rfl, igX6, by decide, rfl, wd_257, rfl, tyX6_ok, nmX6, rfl, by decide +kernel, rfl⟩
theorem wd_258 : Cond.fieldLink RX6 47 (TX6 16).1 (TX6 16).2.1 (TX6 16).2.2.1 ∈ gw := gw_of (w := Cond.fieldLink RX6 47 (TX6 16).1 (TX6 16).2.1 (TX6 16).2.2.1) (by decide +kernel) (by decide +kernel)
theorem fqX6_47 : FQ RX6 47 7 16 true (.array .int) true := ⟨by decide, by decide, RX6, TX6, 34, tyX6, rfl, igX6, by decide, rfl, wd_258, rfl, tyX6_ok, nmX6, rfl, by decide +kernel, rfl⟩
theorem wd_259 : Cond.fieldLink RX6 50 (TX6 17).1 (TX6 17).2.1 (TX6 17).2.2.1 ∈ gw := gw_of (w := Cond.fieldLink RX6 50 (TX6 17).1 (TX6 17).2.1 (TX6 17).2.2.1) (by decide +kernel) (by decide +kernel)
theorem fqX6_50 : FQ RX6 50 7 17 true (.array .int) true := ⟨by decide, by decide, RX6, TX6, 34, tyX6, rfl, igX6, by decide, rfl, wd_259, rfl, tyX6_ok, nmX6, rfl, by decide +kernel, rfl⟩
theorem wd_260 : Cond.fieldLink RX6 53 (TX6 18).1 (TX6 18).2.1 (TX6 18).2.2.1 ∈ gw := gw_of (w := Cond.fieldLink RX6 53 (TX6 18).1 (TX6 18).2.1 (TX6 18).2.2.1) (by decide +kernel) (by decide +kernel)
theorem fqX6_53 : FQ RX6 53 7 18 true (.array .int) true := ⟨by decide, by decide, RX6, TX6, 34, tyX6, rfl, igX6, by decide, rfl, wd_260, rfl, tyX6_ok, nmX6, rfl, by decide +kernel, rfl⟩
theorem wd_261 : Cond.fieldLink RX6 56 (TX6 19).1 (TX6 19).2.1 (TX6 19).2.2.1 ∈ gw := gw_of (w := Cond.fieldLink RX6 56 (TX6 19).1 (TX6 19).2.1 (TX6 19).2.2.1) (by decide +kernel) (by decide +kernel)
theorem fqX6_56 : FQ RX6 56 7 19 true (.array .int) true := ⟨by decide, by decide, RX6, TX6, 34, tyX6, rfl, igX6, by decide, rfl, wd_261, rfl, tyX6_ok, nmX6, rfl, by decide +kernel, rfl⟩
theorem wd_262 : Cond.fieldLink RX6 59 (TX6 20).1 (TX6 20).2.1 (TX6 20).2.2.1 ∈ gw := gw_of (w := Cond.fieldLink RX6 59 (TX6 20).1 (TX6 20).2.1 (TX6 20).2.2.1) (by decide +kernel) (by decide +kernel)
theorem fqX6_59 : FQ RX6 59 7 20 true (.array .int) true := ⟨by decide, by decide, RX6, TX6, 34, tyX6, rfl, igX6, by decide, rfl, wd_262, rfl, tyX6_ok, nmX6, rfl, by decide +kernel, rfl⟩
theorem wd_263 : Cond.fieldLink RX6 62 (TX6 21).1 (TX6 21).2.1 (TX6 21).2.2.1 ∈ gw := gw_of (w := Cond.fieldLink RX6 62 (TX6 21).1 (TX6 21).2.1 (TX6 21).2.2.1) (by decide +kernel) (by decide +kernel)
theorem fqX6_62 : FQ RX6 62 7 21 true (.array .int) true := ⟨by decide, by decide, RX6, TX6, 34, tyX6, rfl, igX6, by decide, rfl, wd_263, rfl, tyX6_ok, nmX6, rfl, by decide +kernel, rfl⟩
theorem wd_264 : Cond.fieldLink RX6 65 (TX6 22).1 (TX6 22).2.1 (TX6 22).2.2.1 ∈ gw := gw_of (w := Cond.fieldLink RX6 65 (TX6 22).1 (TX6 22).2.1 (TX6 22).2.2.1) (by decide +kernel) (by decide +kernel)
theorem fqX6_65 : FQ RX6 65 7 22 true (.array .int) true := ⟨by decide, by decide, RX6, TX6, 34, tyX6, rfl, igX6, by decide, rfl, wd_264, rfl, tyX6_ok, nmX6, rfl, by decide +kernel, rfl⟩
theorem wd_265 : Cond.fieldLink RX6 68 (TX6 23).1 (TX6 23).2.1 (TX6 23).2.2.1 ∈ gw := gw_of (w := Cond.fieldLink RX6 68 (TX6 23).1 (TX6 23).2.1 (TX6 23).2.2.1) (by decide +kernel) (by decide +kernel)
theorem fqX6_68 : FQ RX6 68 7 23 true (.array .int) true := ⟨by decide, by decide, RX6, TX6, 34, tyX6, rfl, igX6, by decide, rfl, wd_265, rfl, tyX6_ok, nmX6, rfl, by decide +kernel, rfl⟩
theorem wd_266 : Cond.fieldLink RX6 71 (TX6 24).1 (TX6 24).2.1 (TX6 24).2.2.1 ∈ gw := gw_of (w := Cond.fieldLink RX6 71 (TX6 24).1 (TX6 24).2.1 (TX6 24).2.2.1) (by decide +kernel) (by decide +kernel)
theorem fqX6_71 : FQ RX6 71 7 24 true (.array .int) true := ⟨by decide, by decide, RX6, TX6, 34, tyX6, rfl, igX6, by decide, rfl, wd_266, rfl, tyX6_ok, nmX6, rfl, by decide +kernel, rfl⟩
theorem wd_267 : Cond.fieldLink RX6 74 (TX6 25).1 (TX6 25).2.1 (TX6 25).2.2.1 ∈ gw := gw_of (w := Cond.fieldLink RX6 74 (TX6 25).1 (TX6 25).2.1 (TX6 25).2.2.1) (by decide +kernel) (by decide +kernel)
theorem fqX6_74 : FQ RX6 74 7 25 true (.array .int) true := ⟨by decide, by decide, RX6, TX6, 34, tyX6, rfl, igX6, by decide, rfl, wd_267, rfl, tyX6_ok, nmX6, rfl, by decide +kernel, rfl⟩
theorem wd_268 : Cond.fieldLink RX6 77 (TX6 26).1 (TX6 26).2.1 (TX6 26).2.2.1 ∈ gw := gw_of (w := Cond.fieldLink RX6 77 (TX6 26).1 (TX6 26).2.1 (TX6 26).2.2.1) (by decide +kernel) (by decide +kernel)
theorem fqX6_77 : FQ RX6 77 7 26 true (.array .int) true := ⟨by decide, by decide, RX6, TX6, 34, tyX6, rfl, igX6, by decide, rfl, wd_268, rfl, tyX6_ok, nmX6, rfl, by decide +kernel, rfl⟩
theorem wd_269 : Cond.fieldLink RX6 80 (TX6 33).1 (TX6 33).2.1 (TX6 33).2.2.1 ∈ gw := gw_of (w := Cond.fieldLink RX6 80 (TX6 33).1 (TX6 33).2.1 (TX6 33).2.2.1) (by decide +kernel) (by decide +kernel)
theorem fqX6_80 : FQ RX6 80 7 33 true (.array .int) true := ⟨by decide, by decide, RX6, TX6, 34, tyX6, rfl, igX6, by decide, rfl, wd_269, rfl, tyX6_ok, nmX6, rfl, by decide +kernel, rfl⟩
theorem wd_270 : Cond.fieldLink RX6 83 (TX6 0).1 (TX6 0).2.1 (TX6 0).2.2.1 ∈ gw := gw_of (w := Cond.fieldLink RX6 83 (TX6 0).1 (TX6 0).2.1 (TX6 0).2.2.1) (by decide +kernel) (by decide +kernel)
theorem fqX6_83 : FQ RX6 83 7 0 false (.int) false := ⟨by decide, by decide, RX6, TX6, 34, tyX6, rfl, igX6, by decide, rfl, wd_270, rfl, tyX6_ok, nmX6, rfl, by decide +kernel, rfl⟩
theorem wd_271 : Cond.fieldLink RX6 88 (TX6 1).1 (TX6 1).2.1 (TX6 1).2.2.1 ∈ gw := gw_of (w := Cond.fieldLink RX6 88 (TX6 1).1 (TX6 1).2.1 (TX6 1).2.2.1) (by decide +kernel) (by decide +kernel)
theorem fqX6_88 : FQ RX6 88 7 1 false (.int) false := ⟨by decide, by decide, RX6, TX6, 34, tyX6, rfl, igX6, by decide, rfl, wd_271, rfl, tyX6_ok, nmX6, rfl, by decide +kernel, rfl⟩
theorem wd_272 : Cond.code yX6_isText cX6_isText 2 (some .boolean) ∈ gw := gw_of (w := Cond.code yX6_isText cX6_isText 2 (some .boolean)) (by decide +kernel) (by decide +kernel)
theorem wd_273 : Cond.methodLink RX6 91 yX6_isText ∈ gw := gw_of (w := Cond.methodLink RX6 91 yX6_isText) (by decide +kernel) (by decide +kernel)
theorem wd_274 : Cond.instanceMethod yX6_isText ∈ gw := gw_of (w := Cond.instanceMethod yX6_isText) (by decide +kernel) (by decide +kernel)
theorem wd_275 : Cond.selects RX6 yX6_isText yX6_isText ∈ gw := gw_of (w := Cond.selects RX6 yX6_isText yX6_isText) (by decide +kernel) (by decide +kernel)
theorem wd_276 : Cond.initialized RX6 ∈ gw := gw_of (w := Cond.initialized RX6) (by decide +kernel) (by decide +kernel)
theorem vqX6_91 : VQ RX6 91 yX6_isText cX6_isText 2 (some .boolean) 7 1 := ⟨⟨wd_273, wd_274, wd_275, wd_276, wd_272⟩, ⟨_, rfl, rfl⟩, by decide, by decide, by decide +kernel, by decide +kernel, by decide +kernel, by decide⟩
theorem wd_277 : Cond.code yX6_isWord cX6_isWord 2 (some .boolean) ∈ gw := gw_of (w := Cond.code yX6_isWord cX6_isWord 2 (some .boolean)) (by decide +kernel) (by decide +kernel)
theorem wd_278 : Cond.methodLink RX6 95 yX6_isWord ∈ gw := gw_of (w := Cond.methodLink RX6 95 yX6_isWord) (by decide +kernel) (by decide +kernel)
theorem wd_279 : Cond.static yX6_isWord ∈ gw := gw_of (w := Cond.static yX6_isWord) (by decide +kernel) (by decide +kernel)
theorem sqX6_95 : SQ RX6 95 yX6_isWord cX6_isWord 2 (some .boolean) 1 := ⟨⟨wd_278, wd_279, wd_276, wd_277⟩, rfl, by decide +kernel, by decide +kernel, by decide +kernel, by decide⟩
theorem wd_280 : Cond.code yX6_add cX6_add 3 (some .int) ∈ gw := gw_of (w := Cond.code yX6_add cX6_add 3 (some .int)) (by decide +kernel) (by decide +kernel)
theorem wd_281 : Cond.methodLink RX6 98 yX6_add ∈ gw := gw_of (w := Cond.methodLink RX6 98 yX6_add) (by decide +kernel) (by decide +kernel)
theorem wd_282 : Cond.instanceMethod yX6_add ∈ gw := gw_of (w := Cond.instanceMethod yX6_add) (by decide +kernel) (by decide +kernel)
theorem wd_283 : Cond.selects RX6 yX6_add yX6_add ∈ gw := gw_of (w := Cond.selects RX6 yX6_add yX6_add) (by decide +kernel) (by decide +kernel)
theorem vqX6_98 : VQ RX6 98 yX6_add cX6_add 3 (some .int) 7 2 := ⟨⟨wd_281, wd_282, wd_283, wd_276, wd_280⟩, ⟨_, rfl, rfl⟩, by decide, by decide, by decide +kernel, by decide +kernel, by decide +kernel, by decide⟩
theorem wd_284 : Cond.fieldLink RX6 102 (TX6 2).1 (TX6 2).2.1 (TX6 2).2.2.1 ∈ gw := gw_of (w := Cond.fieldLink RX6 102 (TX6 2).1 (TX6 2).2.1 (TX6 2).2.2.1) (by decide +kernel) (by decide +kernel)
theorem fqX6_102 : FQ RX6 102 7 2 false (.int) false := ⟨by decide, by decide, RX6, TX6, 34, tyX6, rfl, igX6, by decide, rfl, wd_284, rfl, tyX6_ok, nmX6, rfl, by decide +kernel, rfl⟩
theorem wd_285 : Cond.code yX6_statement cX6_statement 5 (some .int) ∈ gw := gw_of (w := Cond.code yX6_statement cX6_statement 5 (some .int)) (by decide +kernel) (by decide +kernel)
theorem wd_286 : Cond.methodLink RX6 105 yX6_statement ∈ gw := gw_of (w := Cond.methodLink RX6 105 yX6_statement) (by decide +kernel) (by decide +kernel)
theorem wd_287 : Cond.instanceMethod yX6_statement ∈ gw := gw_of (w := Cond.instanceMethod yX6_statement) (by decide +kernel) (by decide +kernel)
theorem wd_288 : Cond.selects RX6 yX6_statement yX6_statement ∈ gw := gw_of (w := Cond.selects RX6 yX6_statement yX6_statement) (by decide +kernel) (by decide +kernel)
theorem vqX6_105 : VQ RX6 105 yX6_statement cX6_statement 5 (some .int) 7 4 := ⟨⟨wd_286, wd_287, wd_288, wd_276, wd_285⟩, ⟨_, rfl, rfl⟩, by decide, by decide, by decide +kernel, by decide +kernel, by decide +kernel, by decide⟩
theorem wd_289 : Cond.fieldLink RX6 109 (TX6 3).1 (TX6 3).2.1 (TX6 3).2.2.1 ∈ gw := gw_of (w := Cond.fieldLink RX6 109 (TX6 3).1 (TX6 3).2.1 (TX6 3).2.2.1) (by decide +kernel) (by decide +kernel)
theorem fqX6_109 : FQ RX6 109 7 3 false (.int) false := ⟨by decide, by decide, RX6, TX6, 34, tyX6, rfl, igX6, by decide, rfl, wd_289, rfl, tyX6_ok, nmX6, rfl, by decide +kernel, rfl⟩
theorem wd_290 : Cond.fieldLink RX6 112 (TX6 28).1 (TX6 28).2.1 (TX6 28).2.2.1 ∈ gw := gw_of (w := Cond.fieldLink RX6 112 (TX6 28).1 (TX6 28).2.1 (TX6 28).2.2.1) (by decide +kernel) (by decide +kernel)
theorem fqX6_112 : FQ RX6 112 7 28 false (.int) false := ⟨by decide, by decide, RX6, TX6, 34, tyX6, rfl, igX6, by decide, rfl, wd_290, rfl, tyX6_ok, nmX6, rfl, by decide +kernel, rfl⟩
theorem wd_291 : Cond.code yX6_put cX6_put 9 (some .boolean) ∈ gw := gw_of (w := Cond.code yX6_put cX6_put 9 (some .boolean)) (by decide +kernel) (by decide +kernel)
theorem wd_292 : Cond.methodLink RX6 115 yX6_put ∈ gw := gw_of (w := Cond.methodLink RX6 115 yX6_put) (by decide +kernel) (by decide +kernel)
theorem wd_293 : Cond.instanceMethod yX6_put ∈ gw := gw_of (w := Cond.instanceMethod yX6_put) (by decide +kernel) (by decide +kernel)
theorem wd_294 : Cond.selects RX6 yX6_put yX6_put ∈ gw := gw_of (w := Cond.selects RX6 yX6_put yX6_put) (by decide +kernel) (by decide +kernel)
theorem vqX6_115 : VQ RX6 115 yX6_put cX6_put 9 (some .boolean) 7 7 := ⟨⟨wd_292, wd_293, wd_294, wd_276, wd_291⟩, ⟨_, rfl, rfl⟩, by decide, by decide, by decide +kernel, by decide +kernel, by decide +kernel, by decide⟩
theorem wd_295 : Cond.code yX6_letters cX6_letters 3 (some .int) ∈ gw := gw_of (w := Cond.code yX6_letters cX6_letters 3 (some .int)) (by decide +kernel) (by decide +kernel)
theorem wd_296 : Cond.methodLink RX6 119 yX6_letters ∈ gw := gw_of (w := Cond.methodLink RX6 119 yX6_letters) (by decide +kernel) (by decide +kernel)
theorem wd_297 : Cond.static yX6_letters ∈ gw := gw_of (w := Cond.static yX6_letters) (by decide +kernel) (by decide +kernel)
theorem sqX6_119 : SQ RX6 119 yX6_letters cX6_letters 3 (some .int) 1 := ⟨⟨wd_296, wd_297, wd_276, wd_295⟩, rfl, by decide +kernel, by decide +kernel, by decide +kernel, by decide⟩
theorem wd_298 : Cond.code yX6_power cX6_power 3 (some .int) ∈ gw := gw_of (w := Cond.code yX6_power cX6_power 3 (some .int)) (by decide +kernel) (by decide +kernel)
theorem wd_299 : Cond.methodLink RX6 123 yX6_power ∈ gw := gw_of (w := Cond.methodLink RX6 123 yX6_power) (by decide +kernel) (by decide +kernel)
theorem wd_300 : Cond.static yX6_power ∈ gw := gw_of (w := Cond.static yX6_power) (by decide +kernel) (by decide +kernel)
theorem sqX6_123 : SQ RX6 123 yX6_power cX6_power 3 (some .int) 1 := ⟨⟨wd_299, wd_300, wd_276, wd_298⟩, rfl, by decide +kernel, by decide +kernel, by decide +kernel, by decide⟩
theorem wd_301 : Cond.code yX6_behind cX6_behind 6 (some .int) ∈ gw := gw_of (w := Cond.code yX6_behind cX6_behind 6 (some .int)) (by decide +kernel) (by decide +kernel)
theorem wd_302 : Cond.methodLink RX6 126 yX6_behind ∈ gw := gw_of (w := Cond.methodLink RX6 126 yX6_behind) (by decide +kernel) (by decide +kernel)
theorem wd_303 : Cond.instanceMethod yX6_behind ∈ gw := gw_of (w := Cond.instanceMethod yX6_behind) (by decide +kernel) (by decide +kernel)
theorem wd_304 : Cond.selects RX6 yX6_behind yX6_behind ∈ gw := gw_of (w := Cond.selects RX6 yX6_behind yX6_behind) (by decide +kernel) (by decide +kernel)
theorem vqX6_126 : VQ RX6 126 yX6_behind cX6_behind 6 (some .int) 7 3 := ⟨⟨wd_302, wd_303, wd_304, wd_276, wd_301⟩, ⟨_, rfl, rfl⟩, by decide, by decide, by decide +kernel, by decide +kernel, by decide +kernel, by decide⟩
theorem wd_305 : Cond.fieldLink RX6 130 (TX6 30).1 (TX6 30).2.1 (TX6 30).2.2.1 ∈ gw := gw_of (w := Cond.fieldLink RX6 130 (TX6 30).1 (TX6 30).2.1 (TX6 30).2.2.1) (by decide +kernel) (by decide +kernel)
theorem fqX6_130 : FQ RX6 130 7 30 false (.int) false := ⟨by decide, by decide, RX6, TX6, 34, tyX6, rfl, igX6, by decide, rfl, wd_305, rfl, tyX6_ok, nmX6, rfl, by decide +kernel, rfl⟩
theorem wd_306 : Cond.code yX6_hasPart cX6_hasPart 5 (some .boolean) ∈ gw := gw_of (w := Cond.code yX6_hasPart cX6_hasPart 5 (some .boolean)) (by decide +kernel) (by decide +kernel)
theorem wd_307 : Cond.methodLink RX6 133 yX6_hasPart ∈ gw := gw_of (w := Cond.methodLink RX6 133 yX6_hasPart) (by decide +kernel) (by decide +kernel)
theorem wd_308 : Cond.instanceMethod yX6_hasPart ∈ gw := gw_of (w := Cond.instanceMethod yX6_hasPart) (by decide +kernel) (by decide +kernel)
theorem wd_309 : Cond.selects RX6 yX6_hasPart yX6_hasPart ∈ gw := gw_of (w := Cond.selects RX6 yX6_hasPart yX6_hasPart) (by decide +kernel) (by decide +kernel)
theorem vqX6_133 : VQ RX6 133 yX6_hasPart cX6_hasPart 5 (some .boolean) 7 2 := ⟨⟨wd_307, wd_308, wd_309, wd_276, wd_306⟩, ⟨_, rfl, rfl⟩, by decide, by decide, by decide +kernel, by decide +kernel, by decide +kernel, by decide⟩
theorem wd_310 : Cond.code yX6_changed cX6_changed 6 (some .int) ∈ gw := gw_of (w := Cond.code yX6_changed cX6_changed 6 (some .int)) (by decide +kernel) (by decide +kernel)
theorem wd_311 : Cond.methodLink RX6 137 yX6_changed ∈ gw := gw_of (w := Cond.methodLink RX6 137 yX6_changed) (by decide +kernel) (by decide +kernel)
theorem wd_312 : Cond.instanceMethod yX6_changed ∈ gw := gw_of (w := Cond.instanceMethod yX6_changed) (by decide +kernel) (by decide +kernel)
theorem wd_313 : Cond.selects RX6 yX6_changed yX6_changed ∈ gw := gw_of (w := Cond.selects RX6 yX6_changed yX6_changed) (by decide +kernel) (by decide +kernel)
theorem vqX6_137 : VQ RX6 137 yX6_changed cX6_changed 6 (some .int) 7 2 := ⟨⟨wd_311, wd_312, wd_313, wd_276, wd_310⟩, ⟨_, rfl, rfl⟩, by decide, by decide, by decide +kernel, by decide +kernel, by decide +kernel, by decide⟩
theorem wd_314 : Cond.code yX6_again cX6_again 3 (some .boolean) ∈ gw := gw_of (w := Cond.code yX6_again cX6_again 3 (some .boolean)) (by decide +kernel) (by decide +kernel)
theorem wd_315 : Cond.methodLink RX6 140 yX6_again ∈ gw := gw_of (w := Cond.methodLink RX6 140 yX6_again) (by decide +kernel) (by decide +kernel)
theorem wd_316 : Cond.instanceMethod yX6_again ∈ gw := gw_of (w := Cond.instanceMethod yX6_again) (by decide +kernel) (by decide +kernel)
theorem wd_317 : Cond.selects RX6 yX6_again yX6_again ∈ gw := gw_of (w := Cond.selects RX6 yX6_again yX6_again) (by decide +kernel) (by decide +kernel)
theorem vqX6_140 : VQ RX6 140 yX6_again cX6_again 3 (some .boolean) 7 2 := ⟨⟨wd_315, wd_316, wd_317, wd_276, wd_314⟩, ⟨_, rfl, rfl⟩, by decide, by decide, by decide +kernel, by decide +kernel, by decide +kernel, by decide⟩
theorem wd_318 : Cond.code yX6_step cX6_step 9 (some .int) ∈ gw := gw_of (w := Cond.code yX6_step cX6_step 9 (some .int)) (by decide +kernel) (by decide +kernel)
theorem wd_319 : Cond.methodLink RX6 143 yX6_step ∈ gw := gw_of (w := Cond.methodLink RX6 143 yX6_step) (by decide +kernel) (by decide +kernel)
theorem wd_320 : Cond.instanceMethod yX6_step ∈ gw := gw_of (w := Cond.instanceMethod yX6_step) (by decide +kernel) (by decide +kernel)
theorem wd_321 : Cond.selects RX6 yX6_step yX6_step ∈ gw := gw_of (w := Cond.selects RX6 yX6_step yX6_step) (by decide +kernel) (by decide +kernel)
theorem vqX6_143 : VQ RX6 143 yX6_step cX6_step 9 (some .int) 7 4 := ⟨⟨wd_319, wd_320, wd_321, wd_276, wd_318⟩, ⟨_, rfl, rfl⟩, by decide, by decide, by decide +kernel, by decide +kernel, by decide +kernel, by decide⟩
theorem wd_322 : Cond.fieldLink RX6 147 (TX6 27).1 (TX6 27).2.1 (TX6 27).2.2.1 ∈ gw := gw_of (w := Cond.fieldLink RX6 147 (TX6 27).1 (TX6 27).2.1 (TX6 27).2.2.1) (by decide +kernel) (by decide +kernel)
theorem fqX6_147 : FQ RX6 147 7 27 false (.int) false := ⟨by decide, by decide, RX6, TX6, 34, tyX6, rfl, igX6, by decide, rfl, wd_322, rfl, tyX6_ok, nmX6, rfl, by decide +kernel, rfl⟩
theorem wd_323 : Cond.fieldLink RX6 150 (TX6 29).1 (TX6 29).2.1 (TX6 29).2.2.1 ∈ gw := gw_of (w := Cond.fieldLink RX6 150 (TX6 29).1 (TX6 29).2.1 (TX6 29).2.2.1) (by decide +kernel) (by decide +kernel)
theorem fqX6_150 : FQ RX6 150 7 29 false (.int) false := ⟨by decide, by decide, RX6, TX6, 34, tyX6, rfl, igX6, by decide, rfl, wd_323, rfl, tyX6_ok, nmX6, rfl, by decide +kernel, rfl⟩
theorem wd_324 : Cond.code yX6_textNamed cX6_textNamed 3 (some .int) ∈ gw := gw_of (w := Cond.code yX6_textNamed cX6_textNamed 3 (some .int)) (by decide +kernel) (by decide +kernel)
theorem wd_325 : Cond.methodLink RX6 153 yX6_textNamed ∈ gw := gw_of (w := Cond.methodLink RX6 153 yX6_textNamed) (by decide +kernel) (by decide +kernel)
theorem wd_326 : Cond.instanceMethod yX6_textNamed ∈ gw := gw_of (w := Cond.instanceMethod yX6_textNamed) (by decide +kernel) (by decide +kernel)
theorem wd_327 : Cond.selects RX6 yX6_textNamed yX6_textNamed ∈ gw := gw_of (w := Cond.selects RX6 yX6_textNamed yX6_textNamed) (by decide +kernel) (by decide +kernel)
theorem vqX6_153 : VQ RX6 153 yX6_textNamed cX6_textNamed 3 (some .int) 7 1 := ⟨⟨wd_325, wd_326, wd_327, wd_276, wd_324⟩, ⟨_, rfl, rfl⟩, by decide, by decide, by decide +kernel, by decide +kernel, by decide +kernel, by decide⟩
theorem wd_328 : Cond.code yX6_begin cX6_begin 3 none ∈ gw := gw_of (w := Cond.code yX6_begin cX6_begin 3 none) (by decide +kernel) (by decide +kernel)
theorem wd_329 : Cond.methodLink RX6 156 yX6_begin ∈ gw := gw_of (w := Cond.methodLink RX6 156 yX6_begin) (by decide +kernel) (by decide +kernel)
theorem wd_330 : Cond.instanceMethod yX6_begin ∈ gw := gw_of (w := Cond.instanceMethod yX6_begin) (by decide +kernel) (by decide +kernel)
theorem wd_331 : Cond.selects RX6 yX6_begin yX6_begin ∈ gw := gw_of (w := Cond.selects RX6 yX6_begin yX6_begin) (by decide +kernel) (by decide +kernel)
theorem vqX6_156 : VQ RX6 156 yX6_begin cX6_begin 3 none 7 2 := ⟨⟨wd_329, wd_330, wd_331, wd_276, wd_328⟩, ⟨_, rfl, rfl⟩, by decide, by decide, by decide +kernel, by decide +kernel, by decide +kernel, by decide⟩
theorem wd_332 : Cond.fieldLink RX6 160 (TX6 31).1 (TX6 31).2.1 (TX6 31).2.2.1 ∈ gw := gw_of (w := Cond.fieldLink RX6 160 (TX6 31).1 (TX6 31).2.1 (TX6 31).2.2.1) (by decide +kernel) (by decide +kernel)
theorem fqX6_160 : FQ RX6 160 7 31 false (.int) false := ⟨by decide, by decide, RX6, TX6, 34, tyX6, rfl, igX6, by decide, rfl, wd_332, rfl, tyX6_ok, nmX6, rfl, by decide +kernel, rfl⟩
theorem wd_333 : Cond.code yX6_match cX6_match 8 none ∈ gw := gw_of (w := Cond.code yX6_match cX6_match 8 none) (by decide +kernel) (by decide +kernel)
theorem wd_334 : Cond.methodLink RX6 163 yX6_match ∈ gw := gw_of (w := Cond.methodLink RX6 163 yX6_match) (by decide +kernel) (by decide +kernel)
theorem wd_335 : Cond.instanceMethod yX6_match ∈ gw := gw_of (w := Cond.instanceMethod yX6_match) (by decide +kernel) (by decide +kernel)
theorem wd_336 : Cond.selects RX6 yX6_match yX6_match ∈ gw := gw_of (w := Cond.selects RX6 yX6_match yX6_match) (by decide +kernel) (by decide +kernel)
theorem vqX6_163 : VQ RX6 163 yX6_match cX6_match 8 none 7 2 := ⟨⟨wd_334, wd_335, wd_336, wd_276, wd_333⟩, ⟨_, rfl, rfl⟩, by decide, by decide, by decide +kernel, by decide +kernel, by decide +kernel, by decide⟩
theorem wd_337 : Cond.fieldLink RX6 166 (TX6 32).1 (TX6 32).2.1 (TX6 32).2.2.1 ∈ gw := gw_of (w := Cond.fieldLink RX6 166 (TX6 32).1 (TX6 32).2.1 (TX6 32).2.2.1) (by decide +kernel) (by decide +kernel)
theorem fqX6_166 : FQ RX6 166 7 32 false (.int) false := ⟨by decide, by decide, RX6, TX6, 34, tyX6, rfl, igX6, by decide, rfl, wd_337, rfl, tyX6_ok, nmX6, rfl, by decide +kernel, rfl⟩
theorem wd_338 : Cond.code yX6_end cX6_end 5 none ∈ gw := gw_of (w := Cond.code yX6_end cX6_end 5 none) (by decide +kernel) (by decide +kernel)
theorem wd_339 : Cond.methodLink RX6 169 yX6_end ∈ gw := gw_of (w := Cond.methodLink RX6 169 yX6_end) (by decide +kernel) (by decide +kernel)
theorem wd_340 : Cond.instanceMethod yX6_end ∈ gw := gw_of (w := Cond.instanceMethod yX6_end) (by decide +kernel) (by decide +kernel)
theorem wd_341 : Cond.selects RX6 yX6_end yX6_end ∈ gw := gw_of (w := Cond.selects RX6 yX6_end yX6_end) (by decide +kernel) (by decide +kernel)
theorem vqX6_169 : VQ RX6 169 yX6_end cX6_end 5 none 7 0 := ⟨⟨wd_339, wd_340, wd_341, wd_276, wd_338⟩, ⟨_, rfl, rfl⟩, by decide, by decide, by decide +kernel, by decide +kernel, by decide +kernel, by decide⟩
theorem wd_342 : Cond.code yX6_copied cX6_copied 5 none ∈ gw := gw_of (w := Cond.code yX6_copied cX6_copied 5 none) (by decide +kernel) (by decide +kernel)
theorem wd_343 : Cond.methodLink RX6 172 yX6_copied ∈ gw := gw_of (w := Cond.methodLink RX6 172 yX6_copied) (by decide +kernel) (by decide +kernel)
theorem wd_344 : Cond.instanceMethod yX6_copied ∈ gw := gw_of (w := Cond.instanceMethod yX6_copied) (by decide +kernel) (by decide +kernel)
theorem wd_345 : Cond.selects RX6 yX6_copied yX6_copied ∈ gw := gw_of (w := Cond.selects RX6 yX6_copied yX6_copied) (by decide +kernel) (by decide +kernel)
theorem vqX6_172 : VQ RX6 172 yX6_copied cX6_copied 5 none 7 1 := ⟨⟨wd_343, wd_344, wd_345, wd_276, wd_342⟩, ⟨_, rfl, rfl⟩, by decide, by decide, by decide +kernel, by decide +kernel, by decide +kernel, by decide⟩
theorem wd_346 : Cond.code yX5_at cX5_at 2 (some .int) ∈ gw := gw_of (w := Cond.code yX5_at cX5_at 2 (some .int)) (by decide +kernel) (by decide +kernel)
theorem wd_347 : Cond.methodLink RL 7 yX5_at ∈ gw := gw_of (w := Cond.methodLink RL 7 yX5_at) (by decide +kernel) (by decide +kernel)
theorem wd_348 : Cond.instanceMethod yX5_at ∈ gw := gw_of (w := Cond.instanceMethod yX5_at) (by decide +kernel) (by decide +kernel)
theorem wd_349 : Cond.selects RX5 yX5_at yX5_at ∈ gw := gw_of (w := Cond.selects RX5 yX5_at yX5_at) (by decide +kernel) (by decide +kernel)
theorem vqL_7 : VQ RL 7 yX5_at cX5_at 2 (some .int) 6 1 := ⟨⟨wd_347, wd_348, wd_349, wd_84, wd_346⟩, ⟨_, rfl, rfl⟩, by decide, by decide, by decide +kernel, by decide +kernel, by decide +kernel, by decide⟩
theorem wd_350 : Cond.classLink RL 8 RX5 ∈ gw := gw_of (w := Cond.classLink RL 8 RX5) (by decide +kernel) (by decide +kernel)
theorem wd_351 : Cond.instantiable RX5 13 ∈ gw := gw_of (w := Cond.instantiable RX5 13) (by decide +kernel) (by decide +kernel)
theorem nqL_8 : NQ RL 8 6 13 := ⟨by decide, by decide, RX5, TX5, tyX5, rfl, igX5, rfl, tyX5_ok, wd_350, wd_351, wd_84, by decide +kernel⟩
theorem wd_352 : Cond.code yX5_init cX5_init 1 none ∈ gw := gw_of (w := Cond.code yX5_init cX5_init 1 none) (by decide +kernel) (by decide +kernel)
theorem wd_353 : Cond.methodLink RL 15 yX5_init ∈ gw := gw_of (w := Cond.methodLink RL 15 yX5_init) (by decide +kernel) (by decide +kernel)
theorem wd_354 : Cond.instanceMethod yX5_init ∈ gw := gw_of (w := Cond.instanceMethod yX5_init) (by decide +kernel) (by decide +kernel)
theorem iqL_15 : IQ RL 15 yX5_init cX5_init 1 0 := ⟨⟨wd_353, wd_354, wd_84, wd_352⟩, rfl, by decide +kernel, by decide +kernel, by decide +kernel, by decide⟩
theorem wd_355 : Cond.classLink RL 16 RX6 ∈ gw := gw_of (w := Cond.classLink RL 16 RX6) (by decide +kernel) (by decide +kernel)
theorem wd_356 : Cond.instantiable RX6 34 ∈ gw := gw_of (w := Cond.instantiable RX6 34) (by decide +kernel) (by decide +kernel)
theorem nqL_16 : NQ RL 16 7 34 := ⟨by decide, by decide, RX6, TX6, tyX6, rfl, igX6, rfl, tyX6_ok, wd_355, wd_356, wd_276, by decide +kernel⟩
theorem wd_357 : Cond.code yX6_init cX6_init 1 none ∈ gw := gw_of (w := Cond.code yX6_init cX6_init 1 none) (by decide +kernel) (by decide +kernel)
theorem wd_358 : Cond.methodLink RL 18 yX6_init ∈ gw := gw_of (w := Cond.methodLink RL 18 yX6_init) (by decide +kernel) (by decide +kernel)
theorem wd_359 : Cond.instanceMethod yX6_init ∈ gw := gw_of (w := Cond.instanceMethod yX6_init) (by decide +kernel) (by decide +kernel)
theorem iqL_18 : IQ RL 18 yX6_init cX6_init 1 0 := ⟨⟨wd_358, wd_359, wd_276, wd_357⟩, rfl, by decide +kernel, by decide +kernel, by decide +kernel, by decide⟩
theorem wd_360 : Cond.code yX5_library cX5_library 3 (some .int) ∈ gw := gw_of (w := Cond.code yX5_library cX5_library 3 (some .int)) (by decide +kernel) (by decide +kernel)
theorem wd_361 : Cond.methodLink RL 19 yX5_library ∈ gw := gw_of (w := Cond.methodLink RL 19 yX5_library) (by decide +kernel) (by decide +kernel)
theorem wd_362 : Cond.instanceMethod yX5_library ∈ gw := gw_of (w := Cond.instanceMethod yX5_library) (by decide +kernel) (by decide +kernel)
theorem wd_363 : Cond.selects RX5 yX5_library yX5_library ∈ gw := gw_of (w := Cond.selects RX5 yX5_library yX5_library) (by decide +kernel) (by decide +kernel)
theorem vqL_19 : VQ RL 19 yX5_library cX5_library 3 (some .int) 6 1 := ⟨⟨wd_361, wd_362, wd_363, wd_84, wd_360⟩, ⟨_, rfl, rfl⟩, by decide, by decide, by decide +kernel, by decide +kernel, by decide +kernel, by decide⟩
theorem wd_364 : Cond.code yX6_library cX6_library 2 (some .int) ∈ gw := gw_of (w := Cond.code yX6_library cX6_library 2 (some .int)) (by decide +kernel) (by decide +kernel)
theorem wd_365 : Cond.methodLink RL 22 yX6_library ∈ gw := gw_of (w := Cond.methodLink RL 22 yX6_library) (by decide +kernel) (by decide +kernel)
theorem wd_366 : Cond.instanceMethod yX6_library ∈ gw := gw_of (w := Cond.instanceMethod yX6_library) (by decide +kernel) (by decide +kernel)
theorem wd_367 : Cond.selects RX6 yX6_library yX6_library ∈ gw := gw_of (w := Cond.selects RX6 yX6_library yX6_library) (by decide +kernel) (by decide +kernel)
theorem vqL_22 : VQ RL 22 yX6_library cX6_library 2 (some .int) 7 1 := ⟨⟨wd_365, wd_366, wd_367, wd_276, wd_364⟩, ⟨_, rfl, rfl⟩, by decide, by decide, by decide +kernel, by decide +kernel, by decide +kernel, by decide⟩
theorem wd_368 : Cond.code yX5_word cX5_word 4 (some .int) ∈ gw := gw_of (w := Cond.code yX5_word cX5_word 4 (some .int)) (by decide +kernel) (by decide +kernel)
theorem wd_369 : Cond.methodLink RL 23 yX5_word ∈ gw := gw_of (w := Cond.methodLink RL 23 yX5_word) (by decide +kernel) (by decide +kernel)
theorem wd_370 : Cond.instanceMethod yX5_word ∈ gw := gw_of (w := Cond.instanceMethod yX5_word) (by decide +kernel) (by decide +kernel)
theorem wd_371 : Cond.selects RX5 yX5_word yX5_word ∈ gw := gw_of (w := Cond.selects RX5 yX5_word yX5_word) (by decide +kernel) (by decide +kernel)
theorem vqL_23 : VQ RL 23 yX5_word cX5_word 4 (some .int) 6 2 := ⟨⟨wd_369, wd_370, wd_371, wd_84, wd_368⟩, ⟨_, rfl, rfl⟩, by decide, by decide, by decide +kernel, by decide +kernel, by decide +kernel, by decide⟩
theorem wd_372 : Cond.code yX6_word cX6_word 3 (some .int) ∈ gw := gw_of (w := Cond.code yX6_word cX6_word 3 (some .int)) (by decide +kernel) (by decide +kernel)
theorem wd_373 : Cond.methodLink RL 27 yX6_word ∈ gw := gw_of (w := Cond.methodLink RL 27 yX6_word) (by decide +kernel) (by decide +kernel)
theorem wd_374 : Cond.instanceMethod yX6_word ∈ gw := gw_of (w := Cond.instanceMethod yX6_word) (by decide +kernel) (by decide +kernel)
theorem wd_375 : Cond.selects RX6 yX6_word yX6_word ∈ gw := gw_of (w := Cond.selects RX6 yX6_word yX6_word) (by decide +kernel) (by decide +kernel)
theorem vqL_27 : VQ RL 27 yX6_word cX6_word 3 (some .int) 7 2 := ⟨⟨wd_373, wd_374, wd_375, wd_276, wd_372⟩, ⟨_, rfl, rfl⟩, by decide, by decide, by decide +kernel, by decide +kernel, by decide +kernel, by decide⟩
theorem wd_376 : Cond.code yX5_copy cX5_copy 5 (some .int) ∈ gw := gw_of (w := Cond.code yX5_copy cX5_copy 5 (some .int)) (by decide +kernel) (by decide +kernel)
theorem wd_377 : Cond.methodLink RL 28 yX5_copy ∈ gw := gw_of (w := Cond.methodLink RL 28 yX5_copy) (by decide +kernel) (by decide +kernel)
theorem wd_378 : Cond.instanceMethod yX5_copy ∈ gw := gw_of (w := Cond.instanceMethod yX5_copy) (by decide +kernel) (by decide +kernel)
theorem wd_379 : Cond.selects RX5 yX5_copy yX5_copy ∈ gw := gw_of (w := Cond.selects RX5 yX5_copy yX5_copy) (by decide +kernel) (by decide +kernel)
theorem vqL_28 : VQ RL 28 yX5_copy cX5_copy 5 (some .int) 6 3 := ⟨⟨wd_377, wd_378, wd_379, wd_84, wd_376⟩, ⟨_, rfl, rfl⟩, by decide, by decide, by decide +kernel, by decide +kernel, by decide +kernel, by decide⟩
theorem wd_380 : Cond.code yX6_copy cX6_copy 4 (some .int) ∈ gw := gw_of (w := Cond.code yX6_copy cX6_copy 4 (some .int)) (by decide +kernel) (by decide +kernel)
theorem wd_381 : Cond.methodLink RL 32 yX6_copy ∈ gw := gw_of (w := Cond.methodLink RL 32 yX6_copy) (by decide +kernel) (by decide +kernel)
theorem wd_382 : Cond.instanceMethod yX6_copy ∈ gw := gw_of (w := Cond.instanceMethod yX6_copy) (by decide +kernel) (by decide +kernel)
theorem wd_383 : Cond.selects RX6 yX6_copy yX6_copy ∈ gw := gw_of (w := Cond.selects RX6 yX6_copy yX6_copy) (by decide +kernel) (by decide +kernel)
theorem vqL_32 : VQ RL 32 yX6_copy cX6_copy 4 (some .int) 7 3 := ⟨⟨wd_381, wd_382, wd_383, wd_276, wd_380⟩, ⟨_, rfl, rfl⟩, by decide, by decide, by decide +kernel, by decide +kernel, by decide +kernel, by decide⟩
theorem wd_384 : Cond.code yX5_replace cX5_replace 3 (some .int) ∈ gw := gw_of (w := Cond.code yX5_replace cX5_replace 3 (some .int)) (by decide +kernel) (by decide +kernel)
theorem wd_385 : Cond.methodLink RL 33 yX5_replace ∈ gw := gw_of (w := Cond.methodLink RL 33 yX5_replace) (by decide +kernel) (by decide +kernel)
theorem wd_386 : Cond.instanceMethod yX5_replace ∈ gw := gw_of (w := Cond.instanceMethod yX5_replace) (by decide +kernel) (by decide +kernel)
theorem wd_387 : Cond.selects RX5 yX5_replace yX5_replace ∈ gw := gw_of (w := Cond.selects RX5 yX5_replace yX5_replace) (by decide +kernel) (by decide +kernel)
theorem vqL_33 : VQ RL 33 yX5_replace cX5_replace 3 (some .int) 6 1 := ⟨⟨wd_385, wd_386, wd_387, wd_84, wd_384⟩, ⟨_, rfl, rfl⟩, by decide, by decide, by decide +kernel, by decide +kernel, by decide +kernel, by decide⟩
theorem wd_388 : Cond.code yX6_replace cX6_replace 2 (some .int) ∈ gw := gw_of (w := Cond.code yX6_replace cX6_replace 2 (some .int)) (by decide +kernel) (by decide +kernel)
theorem wd_389 : Cond.methodLink RL 36 yX6_replace ∈ gw := gw_of (w := Cond.methodLink RL 36 yX6_replace) (by decide +kernel) (by decide +kernel)
theorem wd_390 : Cond.instanceMethod yX6_replace ∈ gw := gw_of (w := Cond.instanceMethod yX6_replace) (by decide +kernel) (by decide +kernel)
theorem wd_391 : Cond.selects RX6 yX6_replace yX6_replace ∈ gw := gw_of (w := Cond.selects RX6 yX6_replace yX6_replace) (by decide +kernel) (by decide +kernel)
theorem vqL_36 : VQ RL 36 yX6_replace cX6_replace 2 (some .int) 7 1 := ⟨⟨wd_389, wd_390, wd_391, wd_276, wd_388⟩, ⟨_, rfl, rfl⟩, by decide, by decide, by decide +kernel, by decide +kernel, by decide +kernel, by decide⟩
theorem wd_392 : Cond.code yX5_off cX5_off 3 (some .int) ∈ gw := gw_of (w := Cond.code yX5_off cX5_off 3 (some .int)) (by decide +kernel) (by decide +kernel)
theorem wd_393 : Cond.methodLink RL 37 yX5_off ∈ gw := gw_of (w := Cond.methodLink RL 37 yX5_off) (by decide +kernel) (by decide +kernel)
theorem wd_394 : Cond.instanceMethod yX5_off ∈ gw := gw_of (w := Cond.instanceMethod yX5_off) (by decide +kernel) (by decide +kernel)
theorem wd_395 : Cond.selects RX5 yX5_off yX5_off ∈ gw := gw_of (w := Cond.selects RX5 yX5_off yX5_off) (by decide +kernel) (by decide +kernel)
theorem vqL_37 : VQ RL 37 yX5_off cX5_off 3 (some .int) 6 1 := ⟨⟨wd_393, wd_394, wd_395, wd_84, wd_392⟩, ⟨_, rfl, rfl⟩, by decide, by decide, by decide +kernel, by decide +kernel, by decide +kernel, by decide⟩
theorem wd_396 : Cond.code yX6_off cX6_off 2 (some .int) ∈ gw := gw_of (w := Cond.code yX6_off cX6_off 2 (some .int)) (by decide +kernel) (by decide +kernel)
theorem wd_397 : Cond.methodLink RL 40 yX6_off ∈ gw := gw_of (w := Cond.methodLink RL 40 yX6_off) (by decide +kernel) (by decide +kernel)
theorem wd_398 : Cond.instanceMethod yX6_off ∈ gw := gw_of (w := Cond.instanceMethod yX6_off) (by decide +kernel) (by decide +kernel)
theorem wd_399 : Cond.selects RX6 yX6_off yX6_off ∈ gw := gw_of (w := Cond.selects RX6 yX6_off yX6_off) (by decide +kernel) (by decide +kernel)
theorem vqL_40 : VQ RL 40 yX6_off cX6_off 2 (some .int) 7 1 := ⟨⟨wd_397, wd_398, wd_399, wd_276, wd_396⟩, ⟨_, rfl, rfl⟩, by decide, by decide, by decide +kernel, by decide +kernel, by decide +kernel, by decide⟩
theorem wd_400 : Cond.code yX5_phrase cX5_phrase 6 (some .int) ∈ gw := gw_of (w := Cond.code yX5_phrase cX5_phrase 6 (some .int)) (by decide +kernel) (by decide +kernel)
theorem wd_401 : Cond.methodLink RL 41 yX5_phrase ∈ gw := gw_of (w := Cond.methodLink RL 41 yX5_phrase) (by decide +kernel) (by decide +kernel)
theorem wd_402 : Cond.instanceMethod yX5_phrase ∈ gw := gw_of (w := Cond.instanceMethod yX5_phrase) (by decide +kernel) (by decide +kernel)
theorem wd_403 : Cond.selects RX5 yX5_phrase yX5_phrase ∈ gw := gw_of (w := Cond.selects RX5 yX5_phrase yX5_phrase) (by decide +kernel) (by decide +kernel)
theorem vqL_41 : VQ RL 41 yX5_phrase cX5_phrase 6 (some .int) 6 3 := ⟨⟨wd_401, wd_402, wd_403, wd_84, wd_400⟩, ⟨_, rfl, rfl⟩, by decide, by decide, by decide +kernel, by decide +kernel, by decide +kernel, by decide⟩
theorem wd_404 : Cond.code yX6_phrase cX6_phrase 4 (some .int) ∈ gw := gw_of (w := Cond.code yX6_phrase cX6_phrase 4 (some .int)) (by decide +kernel) (by decide +kernel)
theorem wd_405 : Cond.methodLink RL 45 yX6_phrase ∈ gw := gw_of (w := Cond.methodLink RL 45 yX6_phrase) (by decide +kernel) (by decide +kernel)
theorem wd_406 : Cond.instanceMethod yX6_phrase ∈ gw := gw_of (w := Cond.instanceMethod yX6_phrase) (by decide +kernel) (by decide +kernel)
theorem wd_407 : Cond.selects RX6 yX6_phrase yX6_phrase ∈ gw := gw_of (w := Cond.selects RX6 yX6_phrase yX6_phrase) (by decide +kernel) (by decide +kernel)
theorem vqL_45 : VQ RL 45 yX6_phrase cX6_phrase 4 (some .int) 7 3 := ⟨⟨wd_405, wd_406, wd_407, wd_276, wd_404⟩, ⟨_, rfl, rfl⟩, by decide, by decide, by decide +kernel, by decide +kernel, by decide +kernel, by decide⟩
theorem wd_408 : Cond.code yX5_from cX5_from 4 (some .int) ∈ gw := gw_of (w := Cond.code yX5_from cX5_from 4 (some .int)) (by decide +kernel) (by decide +kernel)
theorem wd_409 : Cond.methodLink RL 46 yX5_from ∈ gw := gw_of (w := Cond.methodLink RL 46 yX5_from) (by decide +kernel) (by decide +kernel)
theorem wd_410 : Cond.instanceMethod yX5_from ∈ gw := gw_of (w := Cond.instanceMethod yX5_from) (by decide +kernel) (by decide +kernel)
theorem wd_411 : Cond.selects RX5 yX5_from yX5_from ∈ gw := gw_of (w := Cond.selects RX5 yX5_from yX5_from) (by decide +kernel) (by decide +kernel)
theorem vqL_46 : VQ RL 46 yX5_from cX5_from 4 (some .int) 6 2 := ⟨⟨wd_409, wd_410, wd_411, wd_84, wd_408⟩, ⟨_, rfl, rfl⟩, by decide, by decide, by decide +kernel, by decide +kernel, by decide +kernel, by decide⟩
theorem wd_412 : Cond.code yX6_from cX6_from 3 (some .int) ∈ gw := gw_of (w := Cond.code yX6_from cX6_from 3 (some .int)) (by decide +kernel) (by decide +kernel)
theorem wd_413 : Cond.methodLink RL 49 yX6_from ∈ gw := gw_of (w := Cond.methodLink RL 49 yX6_from) (by decide +kernel) (by decide +kernel)
theorem wd_414 : Cond.instanceMethod yX6_from ∈ gw := gw_of (w := Cond.instanceMethod yX6_from) (by decide +kernel) (by decide +kernel)
theorem wd_415 : Cond.selects RX6 yX6_from yX6_from ∈ gw := gw_of (w := Cond.selects RX6 yX6_from yX6_from) (by decide +kernel) (by decide +kernel)
theorem vqL_49 : VQ RL 49 yX6_from cX6_from 3 (some .int) 7 2 := ⟨⟨wd_413, wd_414, wd_415, wd_276, wd_412⟩, ⟨_, rfl, rfl⟩, by decide, by decide, by decide +kernel, by decide +kernel, by decide +kernel, by decide⟩
theorem wd_416 : Cond.code yX5_to cX5_to 5 (some .int) ∈ gw := gw_of (w := Cond.code yX5_to cX5_to 5 (some .int)) (by decide +kernel) (by decide +kernel)
theorem wd_417 : Cond.methodLink RL 50 yX5_to ∈ gw := gw_of (w := Cond.methodLink RL 50 yX5_to) (by decide +kernel) (by decide +kernel)
theorem wd_418 : Cond.instanceMethod yX5_to ∈ gw := gw_of (w := Cond.instanceMethod yX5_to) (by decide +kernel) (by decide +kernel)
theorem wd_419 : Cond.selects RX5 yX5_to yX5_to ∈ gw := gw_of (w := Cond.selects RX5 yX5_to yX5_to) (by decide +kernel) (by decide +kernel)
theorem vqL_50 : VQ RL 50 yX5_to cX5_to 5 (some .int) 6 2 := ⟨⟨wd_417, wd_418, wd_419, wd_84, wd_416⟩, ⟨_, rfl, rfl⟩, by decide, by decide, by decide +kernel, by decide +kernel, by decide +kernel, by decide⟩
theorem wd_420 : Cond.code yX6_to cX6_to 3 (some .int) ∈ gw := gw_of (w := Cond.code yX6_to cX6_to 3 (some .int)) (by decide +kernel) (by decide +kernel)
theorem wd_421 : Cond.methodLink RL 53 yX6_to ∈ gw := gw_of (w := Cond.methodLink RL 53 yX6_to) (by decide +kernel) (by decide +kernel)
theorem wd_422 : Cond.instanceMethod yX6_to ∈ gw := gw_of (w := Cond.instanceMethod yX6_to) (by decide +kernel) (by decide +kernel)
theorem wd_423 : Cond.selects RX6 yX6_to yX6_to ∈ gw := gw_of (w := Cond.selects RX6 yX6_to yX6_to) (by decide +kernel) (by decide +kernel)
theorem vqL_53 : VQ RL 53 yX6_to cX6_to 3 (some .int) 7 2 := ⟨⟨wd_421, wd_422, wd_423, wd_276, wd_420⟩, ⟨_, rfl, rfl⟩, by decide, by decide, by decide +kernel, by decide +kernel, by decide +kernel, by decide⟩
theorem wd_424 : Cond.code yX5_run cX5_run 3 (some .int) ∈ gw := gw_of (w := Cond.code yX5_run cX5_run 3 (some .int)) (by decide +kernel) (by decide +kernel)
theorem wd_425 : Cond.methodLink RL 54 yX5_run ∈ gw := gw_of (w := Cond.methodLink RL 54 yX5_run) (by decide +kernel) (by decide +kernel)
theorem wd_426 : Cond.instanceMethod yX5_run ∈ gw := gw_of (w := Cond.instanceMethod yX5_run) (by decide +kernel) (by decide +kernel)
theorem wd_427 : Cond.selects RX5 yX5_run yX5_run ∈ gw := gw_of (w := Cond.selects RX5 yX5_run yX5_run) (by decide +kernel) (by decide +kernel)
theorem vqL_54 : VQ RL 54 yX5_run cX5_run 3 (some .int) 6 0 := ⟨⟨wd_425, wd_426, wd_427, wd_84, wd_424⟩, ⟨_, rfl, rfl⟩, by decide, by decide, by decide +kernel, by decide +kernel, by decide +kernel, by decide⟩
theorem wd_428 : Cond.code yX6_run cX6_run 6 (some .int) ∈ gw := gw_of (w := Cond.code yX6_run cX6_run 6 (some .int)) (by decide +kernel) (by decide +kernel)
theorem wd_429 : Cond.methodLink RL 58 yX6_run ∈ gw := gw_of (w := Cond.methodLink RL 58 yX6_run) (by decide +kernel) (by decide +kernel)
theorem wd_430 : Cond.instanceMethod yX6_run ∈ gw := gw_of (w := Cond.instanceMethod yX6_run) (by decide +kernel) (by decide +kernel)
theorem wd_431 : Cond.selects RX6 yX6_run yX6_run ∈ gw := gw_of (w := Cond.selects RX6 yX6_run yX6_run) (by decide +kernel) (by decide +kernel)
theorem vqL_58 : VQ RL 58 yX6_run cX6_run 6 (some .int) 7 0 := ⟨⟨wd_429, wd_430, wd_431, wd_276, wd_428⟩, ⟨_, rfl, rfl⟩, by decide, by decide, by decide +kernel, by decide +kernel, by decide +kernel, by decide⟩
theorem wd_432 : Cond.code yX6_at cX6_at 2 (some .int) ∈ gw := gw_of (w := Cond.code yX6_at cX6_at 2 (some .int)) (by decide +kernel) (by decide +kernel)
theorem wd_433 : Cond.methodLink RL 64 yX6_at ∈ gw := gw_of (w := Cond.methodLink RL 64 yX6_at) (by decide +kernel) (by decide +kernel)
theorem wd_434 : Cond.instanceMethod yX6_at ∈ gw := gw_of (w := Cond.instanceMethod yX6_at) (by decide +kernel) (by decide +kernel)
theorem wd_435 : Cond.selects RX6 yX6_at yX6_at ∈ gw := gw_of (w := Cond.selects RX6 yX6_at yX6_at) (by decide +kernel) (by decide +kernel)
theorem vqL_64 : VQ RL 64 yX6_at cX6_at 2 (some .int) 7 1 := ⟨⟨wd_433, wd_434, wd_435, wd_276, wd_432⟩, ⟨_, rfl, rfl⟩, by decide, by decide, by decide +kernel, by decide +kernel, by decide +kernel, by decide⟩
theorem wd_436 : Cond.code yX6_thrown cX6_thrown 1 (some .int) ∈ gw := gw_of (w := Cond.code yX6_thrown cX6_thrown 1 (some .int)) (by decide +kernel) (by decide +kernel)
theorem wd_437 : Cond.methodLink RL 65 yX6_thrown ∈ gw := gw_of (w := Cond.methodLink RL 65 yX6_thrown) (by decide +kernel) (by decide +kernel)
theorem wd_438 : Cond.instanceMethod yX6_thrown ∈ gw := gw_of (w := Cond.instanceMethod yX6_thrown) (by decide +kernel) (by decide +kernel)
theorem wd_439 : Cond.selects RX6 yX6_thrown yX6_thrown ∈ gw := gw_of (w := Cond.selects RX6 yX6_thrown yX6_thrown) (by decide +kernel) (by decide +kernel)
theorem vqL_65 : VQ RL 65 yX6_thrown cX6_thrown 1 (some .int) 7 0 := ⟨⟨wd_437, wd_438, wd_439, wd_276, wd_436⟩, ⟨_, rfl, rfl⟩, by decide, by decide, by decide +kernel, by decide +kernel, by decide +kernel, by decide⟩
theorem wd_440 : Cond.code yX5_place cX5_place 3 (some .int) ∈ gw := gw_of (w := Cond.code yX5_place cX5_place 3 (some .int)) (by decide +kernel) (by decide +kernel)
theorem wd_441 : Cond.methodLink RL 68 yX5_place ∈ gw := gw_of (w := Cond.methodLink RL 68 yX5_place) (by decide +kernel) (by decide +kernel)
theorem wd_442 : Cond.instanceMethod yX5_place ∈ gw := gw_of (w := Cond.instanceMethod yX5_place) (by decide +kernel) (by decide +kernel)
theorem wd_443 : Cond.selects RX5 yX5_place yX5_place ∈ gw := gw_of (w := Cond.selects RX5 yX5_place yX5_place) (by decide +kernel) (by decide +kernel)
theorem vqL_68 : VQ RL 68 yX5_place cX5_place 3 (some .int) 6 2 := ⟨⟨wd_441, wd_442, wd_443, wd_84, wd_440⟩, ⟨_, rfl, rfl⟩, by decide, by decide, by decide +kernel, by decide +kernel, by decide +kernel, by decide⟩
theorem wd_444 : Cond.code yX6_place cX6_place 3 (some .int) ∈ gw := gw_of (w := Cond.code yX6_place cX6_place 3 (some .int)) (by decide +kernel) (by decide +kernel)
theorem wd_445 : Cond.methodLink RL 71 yX6_place ∈ gw := gw_of (w := Cond.methodLink RL 71 yX6_place) (by decide +kernel) (by decide +kernel)
theorem wd_446 : Cond.instanceMethod yX6_place ∈ gw := gw_of (w := Cond.instanceMethod yX6_place) (by decide +kernel) (by decide +kernel)
theorem wd_447 : Cond.selects RX6 yX6_place yX6_place ∈ gw := gw_of (w := Cond.selects RX6 yX6_place yX6_place) (by decide +kernel) (by decide +kernel)
theorem vqL_71 : VQ RL 71 yX6_place cX6_place 3 (some .int) 7 2 := ⟨⟨wd_445, wd_446, wd_447, wd_276, wd_444⟩, ⟨_, rfl, rfl⟩, by decide, by decide, by decide +kernel, by decide +kernel, by decide +kernel, by decide⟩
theorem wd_448 : Cond.code yX5_ring cX5_ring 2 (some .int) ∈ gw := gw_of (w := Cond.code yX5_ring cX5_ring 2 (some .int)) (by decide +kernel) (by decide +kernel)
theorem wd_449 : Cond.methodLink RL 72 yX5_ring ∈ gw := gw_of (w := Cond.methodLink RL 72 yX5_ring) (by decide +kernel) (by decide +kernel)
theorem wd_450 : Cond.instanceMethod yX5_ring ∈ gw := gw_of (w := Cond.instanceMethod yX5_ring) (by decide +kernel) (by decide +kernel)
theorem wd_451 : Cond.selects RX5 yX5_ring yX5_ring ∈ gw := gw_of (w := Cond.selects RX5 yX5_ring yX5_ring) (by decide +kernel) (by decide +kernel)
theorem vqL_72 : VQ RL 72 yX5_ring cX5_ring 2 (some .int) 6 1 := ⟨⟨wd_449, wd_450, wd_451, wd_84, wd_448⟩, ⟨_, rfl, rfl⟩, by decide, by decide, by decide +kernel, by decide +kernel, by decide +kernel, by decide⟩
theorem wd_452 : Cond.code yX6_ring cX6_ring 2 (some .int) ∈ gw := gw_of (w := Cond.code yX6_ring cX6_ring 2 (some .int)) (by decide +kernel) (by decide +kernel)
theorem wd_453 : Cond.methodLink RL 75 yX6_ring ∈ gw := gw_of (w := Cond.methodLink RL 75 yX6_ring) (by decide +kernel) (by decide +kernel)
theorem wd_454 : Cond.instanceMethod yX6_ring ∈ gw := gw_of (w := Cond.instanceMethod yX6_ring) (by decide +kernel) (by decide +kernel)
theorem wd_455 : Cond.selects RX6 yX6_ring yX6_ring ∈ gw := gw_of (w := Cond.selects RX6 yX6_ring yX6_ring) (by decide +kernel) (by decide +kernel)
theorem vqL_75 : VQ RL 75 yX6_ring cX6_ring 2 (some .int) 7 1 := ⟨⟨wd_453, wd_454, wd_455, wd_276, wd_452⟩, ⟨_, rfl, rfl⟩, by decide, by decide, by decide +kernel, by decide +kernel, by decide +kernel, by decide⟩
theorem wd_456 : Cond.code yX5_count cX5_count 2 (some .int) ∈ gw := gw_of (w := Cond.code yX5_count cX5_count 2 (some .int)) (by decide +kernel) (by decide +kernel)
theorem wd_457 : Cond.methodLink RL 76 yX5_count ∈ gw := gw_of (w := Cond.methodLink RL 76 yX5_count) (by decide +kernel) (by decide +kernel)
theorem wd_458 : Cond.instanceMethod yX5_count ∈ gw := gw_of (w := Cond.instanceMethod yX5_count) (by decide +kernel) (by decide +kernel)
theorem wd_459 : Cond.selects RX5 yX5_count yX5_count ∈ gw := gw_of (w := Cond.selects RX5 yX5_count yX5_count) (by decide +kernel) (by decide +kernel)
theorem vqL_76 : VQ RL 76 yX5_count cX5_count 2 (some .int) 6 1 := ⟨⟨wd_457, wd_458, wd_459, wd_84, wd_456⟩, ⟨_, rfl, rfl⟩, by decide, by decide, by decide +kernel, by decide +kernel, by decide +kernel, by decide⟩
theorem wd_460 : Cond.code yX6_count cX6_count 2 (some .int) ∈ gw := gw_of (w := Cond.code yX6_count cX6_count 2 (some .int)) (by decide +kernel) (by decide +kernel)
theorem wd_461 : Cond.methodLink RL 79 yX6_count ∈ gw := gw_of (w := Cond.methodLink RL 79 yX6_count) (by decide +kernel) (by decide +kernel)
theorem wd_462 : Cond.instanceMethod yX6_count ∈ gw := gw_of (w := Cond.instanceMethod yX6_count) (by decide +kernel) (by decide +kernel)
theorem wd_463 : Cond.selects RX6 yX6_count yX6_count ∈ gw := gw_of (w := Cond.selects RX6 yX6_count yX6_count) (by decide +kernel) (by decide +kernel)
theorem vqL_79 : VQ RL 79 yX6_count cX6_count 2 (some .int) 7 1 := ⟨⟨wd_461, wd_462, wd_463, wd_276, wd_460⟩, ⟨_, rfl, rfl⟩, by decide, by decide, by decide +kernel, by decide +kernel, by decide +kernel, by decide⟩
theorem ac_int : Cond.arrayClass .int ∈ gw := gw_of (w := Cond.arrayClass .int) (by decide +kernel) (by decide +kernel)
theorem ac_boolean : Cond.arrayClass .boolean ∈ gw := gw_of (w := Cond.arrayClass .boolean) (by decide +kernel) (by decide +kernel)
theorem ac_long : Cond.arrayClass .long ∈ gw := gw_of (w := Cond.arrayClass .long) (by decide +kernel) (by decide +kernel)
theorem lc_X6_87 : Cond.constant RX6 87 387420489 ∈ gw := gw_of (w := Cond.constant RX6 87 387420489) (by decide +kernel) (by decide +kernel)
end
