theorem iaX0 : ∀ w ∈ u_ws RX0 TX0 4, w ∈ lw_tbl := by decide +kernel
theorem ibX0 : ∀ w ∈ u_ws RX0 TX0 4, goodWord w = true := by decide +kernel
theorem igX0 : ∀ w ∈ u_ws RX0 TX0 4, w ∈ gw := fun w h => gw_of (iaX0 w h) (ibX0 w h)
theorem iaX1 : ∀ w ∈ u_ws RX1 TX1 7, w ∈ lw_tbl := by decide +kernel
theorem ibX1 : ∀ w ∈ u_ws RX1 TX1 7, goodWord w = true := by decide +kernel
theorem igX1 : ∀ w ∈ u_ws RX1 TX1 7, w ∈ gw := fun w h => gw_of (iaX1 w h) (ibX1 w h)
theorem iaX2 : ∀ w ∈ u_ws RX2 TX2 6, w ∈ lw_tbl := by decide +kernel
theorem ibX2 : ∀ w ∈ u_ws RX2 TX2 6, goodWord w = true := by decide +kernel
theorem igX2 : ∀ w ∈ u_ws RX2 TX2 6, w ∈ gw := fun w h => gw_of (iaX2 w h) (ibX2 w h)
theorem iaX3 : ∀ w ∈ u_ws RX3 TX3 5, w ∈ lw_tbl := by decide +kernel
theorem ibX3 : ∀ w ∈ u_ws RX3 TX3 5, goodWord w = true := by decide +kernel
theorem igX3 : ∀ w ∈ u_ws RX3 TX3 5, w ∈ gw := fun w h => gw_of (iaX3 w h) (ibX3 w h)
theorem iaX4 : ∀ w ∈ u_ws RX4 TX4 2, w ∈ lw_tbl := by decide +kernel
theorem ibX4 : ∀ w ∈ u_ws RX4 TX4 2, goodWord w = true := by decide +kernel
theorem igX4 : ∀ w ∈ u_ws RX4 TX4 2, w ∈ gw := fun w h => gw_of (iaX4 w h) (ibX4 w h)
theorem iaX5 : ∀ w ∈ u_ws RX5 TX5 13, w ∈ lw_tbl := by decide +kernel
theorem ibX5 : ∀ w ∈ u_ws RX5 TX5 13, goodWord w = true := by decide +kernel
theorem igX5 : ∀ w ∈ u_ws RX5 TX5 13, w ∈ gw := fun w h => gw_of (iaX5 w h) (ibX5 w h)
theorem iaX6 : ∀ w ∈ u_ws RX6 TX6 34, w ∈ lw_tbl := by decide +kernel
theorem ibX6 : ∀ w ∈ u_ws RX6 TX6 34, goodWord w = true := by decide +kernel
theorem igX6 : ∀ w ∈ u_ws RX6 TX6 34, w ∈ gw := fun w h => gw_of (iaX6 w h) (ibX6 w h)
theorem wd_0 : Cond.methodLink RX0 1 Lib.objectInit ∈ gw := gw_of (w := Cond.methodLink RX0 1 Lib.objectInit) (by decide +kernel) (by decide +kernel)
theorem wd_1 : Cond.instanceMethod Lib.objectInit ∈ gw := gw_of (w := Cond.instanceMethod Lib.objectInit) (by decide +kernel) (by decide +kernel)
theorem wd_2 : Cond.code Lib.objectInit ⟨#[0xb1]⟩ 1 none ∈ gw := gw_of (w := Cond.code Lib.objectInit ⟨#[0xb1]⟩ 1 none) (by decide +kernel) (by decide +kernel)
theorem oqX0_1 : OQ RX0 1 := ⟨wd_0, wd_1, wd_2⟩
theorem wd_3 : Cond.classLink RX0 7 RX4 ∈ gw := gw_of (w := Cond.classLink RX0 7 RX4) (by decide +kernel) (by decide +kernel)
theorem wd_4 : Cond.instantiable RX4 2 ∈ gw := gw_of (w := Cond.instantiable RX4 2) (by decide +kernel) (by decide +kernel)
theorem wd_5 : Cond.initialized RX4 ∈ gw := gw_of (w := Cond.initialized RX4) (by decide +kernel) (by decide +kernel)
theorem nqX0_7 : NQ RX0 7 5 2 := ⟨by decide, by decide, RX4, TX4, tyX4, rfl, igX4, rfl, tyX4_ok, wd_3, wd_4, wd_5, by decide +kernel⟩
theorem wd_6 : Cond.code yX4_init cX4_init 1 none ∈ gw := gw_of (w := Cond.code yX4_init cX4_init 1 none) (by decide +kernel) (by decide +kernel)
theorem wd_7 : Cond.instanceMethod yX4_init ∈ gw := gw_of (w := Cond.instanceMethod yX4_init) (by decide +kernel) (by decide +kernel)
theorem jqX0_9 : JQ RX0 9 yX4_init cX4_init 1 0 RX5 := ⟨⟨by decide +kernel, wd_7, wd_5, wd_6⟩, rfl, by decide +kernel, by decide +kernel, by decide +kernel, by decide⟩
theorem wd_8 : Cond.fieldLink RX0 10 (TX0 2).1 (TX0 2).2.1 (TX0 2).2.2.1 ∈ gw := gw_of (w := Cond.fieldLink RX0 10 (TX0 2).1 (TX0 2).2.1 (TX0 2).2.2.1) (by decide +kernel) (by decide +kernel)
theorem fqX0_10 : FQ RX0 10 1 2 true (.object "CopyReplace$Words") true := ⟨by decide, by decide, RX0, TX0, 4, tyX0, rfl, igX0, by decide, rfl, wd_8, rfl, tyX0_ok, nmX0, rfl, by decide +kernel, rfl⟩
theorem wd_9 : Cond.fieldLink RX0 16 (TX0 3).1 (TX0 3).2.1 (TX0 3).2.2.1 ∈ gw := gw_of (w := Cond.fieldLink RX0 16 (TX0 3).1 (TX0 3).2.1 (TX0 3).2.2.1) (by decide +kernel) (by decide +kernel)
theorem fqX0_16 : FQ RX0 16 1 3 true (.object "CopyReplace$Words") true := ⟨by decide, by decide, RX0, TX0, 4, tyX0, rfl, igX0, by decide, rfl, wd_9, rfl, tyX0_ok, nmX0, rfl, by decide +kernel, rfl⟩
theorem wd_10 : Cond.fieldLink RX0 19 (TX0 0).1 (TX0 0).2.1 (TX0 0).2.2.1 ∈ gw := gw_of (w := Cond.fieldLink RX0 19 (TX0 0).1 (TX0 0).2.1 (TX0 0).2.2.1) (by decide +kernel) (by decide +kernel)
theorem fqX0_19 : FQ RX0 19 1 0 false (.int) true := ⟨by decide, by decide, RX0, TX0, 4, tyX0, rfl, igX0, by decide, rfl, wd_10, rfl, tyX0_ok, nmX0, rfl, by decide +kernel, rfl⟩
theorem wd_11 : Cond.fieldLink RX0 23 (TX0 1).1 (TX0 1).2.1 (TX0 1).2.2.1 ∈ gw := gw_of (w := Cond.fieldLink RX0 23 (TX0 1).1 (TX0 1).2.1 (TX0 1).2.2.1) (by decide +kernel) (by decide +kernel)
theorem fqX0_23 : FQ RX0 23 1 1 false (.int) true := ⟨by decide, by decide, RX0, TX0, 4, tyX0, rfl, igX0, by decide, rfl, wd_11, rfl, tyX0_ok, nmX0, rfl, by decide +kernel, rfl⟩
theorem wd_12 : Cond.methodLink RX1 3 Lib.objectInit ∈ gw := gw_of (w := Cond.methodLink RX1 3 Lib.objectInit) (by decide +kernel) (by decide +kernel)
theorem oqX1_3 : OQ RX1 3 := ⟨wd_12, wd_1, wd_2⟩
theorem wd_13 : Cond.fieldLink RX1 9 (TX1 0).1 (TX1 0).2.1 (TX1 0).2.2.1 ∈ gw := gw_of (w := Cond.fieldLink RX1 9 (TX1 0).1 (TX1 0).2.1 (TX1 0).2.2.1) (by decide +kernel) (by decide +kernel)
theorem fqX1_9 : FQ RX1 9 2 0 true (.array .int) true := ⟨by decide, by decide, RX1, TX1, 7, tyX1, rfl, igX1, by decide, rfl, wd_13, rfl, tyX1_ok, nmX1, rfl, by decide +kernel, rfl⟩
theorem wd_14 : Cond.fieldLink RX1 15 (TX1 1).1 (TX1 1).2.1 (TX1 1).2.2.1 ∈ gw := gw_of (w := Cond.fieldLink RX1 15 (TX1 1).1 (TX1 1).2.1 (TX1 1).2.2.1) (by decide +kernel) (by decide +kernel)
theorem fqX1_15 : FQ RX1 15 2 1 true (.array .int) true := ⟨by decide, by decide, RX1, TX1, 7, tyX1, rfl, igX1, by decide, rfl, wd_14, rfl, tyX1_ok, nmX1, rfl, by decide +kernel, rfl⟩
theorem wd_15 : Cond.fieldLink RX1 18 (TX1 2).1 (TX1 2).2.1 (TX1 2).2.2.1 ∈ gw := gw_of (w := Cond.fieldLink RX1 18 (TX1 2).1 (TX1 2).2.1 (TX1 2).2.2.1) (by decide +kernel) (by decide +kernel)
theorem fqX1_18 : FQ RX1 18 2 2 true (.array .int) true := ⟨by decide, by decide, RX1, TX1, 7, tyX1, rfl, igX1, by decide, rfl, wd_15, rfl, tyX1_ok, nmX1, rfl, by decide +kernel, rfl⟩
theorem wd_16 : Cond.fieldLink RX1 21 (TX1 3).1 (TX1 3).2.1 (TX1 3).2.2.1 ∈ gw := gw_of (w := Cond.fieldLink RX1 21 (TX1 3).1 (TX1 3).2.1 (TX1 3).2.2.1) (by decide +kernel) (by decide +kernel)
theorem fqX1_21 : FQ RX1 21 2 3 true (.array .int) true := ⟨by decide, by decide, RX1, TX1, 7, tyX1, rfl, igX1, by decide, rfl, wd_16, rfl, tyX1_ok, nmX1, rfl, by decide +kernel, rfl⟩
theorem wd_17 : Cond.fieldLink RX1 24 (TX1 4).1 (TX1 4).2.1 (TX1 4).2.2.1 ∈ gw := gw_of (w := Cond.fieldLink RX1 24 (TX1 4).1 (TX1 4).2.1 (TX1 4).2.2.1) (by decide +kernel) (by decide +kernel)
theorem fqX1_24 : FQ RX1 24 2 4 true (.array .int) true := ⟨by decide, by decide, RX1, TX1, 7, tyX1, rfl, igX1, by decide, rfl, wd_17, rfl, tyX1_ok, nmX1, rfl, by decide +kernel, rfl⟩
theorem wd_18 : Cond.fieldLink RX1 27 (TX1 5).1 (TX1 5).2.1 (TX1 5).2.2.1 ∈ gw := gw_of (w := Cond.fieldLink RX1 27 (TX1 5).1 (TX1 5).2.1 (TX1 5).2.2.1) (by decide +kernel) (by decide +kernel)
theorem fqX1_27 : FQ RX1 27 2 5 true (.array .boolean) true := ⟨by decide, by decide, RX1, TX1, 7, tyX1, rfl, igX1, by decide, rfl, wd_18, rfl, tyX1_ok, nmX1, rfl, by decide +kernel, rfl⟩
theorem wd_19 : Cond.fieldLink RX1 31 (TX1 6).1 (TX1 6).2.1 (TX1 6).2.2.1 ∈ gw := gw_of (w := Cond.fieldLink RX1 31 (TX1 6).1 (TX1 6).2.1 (TX1 6).2.2.1) (by decide +kernel) (by decide +kernel)
theorem fqX1_31 : FQ RX1 31 2 6 false (.int) false := ⟨by decide, by decide, RX1, TX1, 7, tyX1, rfl, igX1, by decide, rfl, wd_19, rfl, tyX1_ok, nmX1, rfl, by decide +kernel, rfl⟩
theorem wd_20 : Cond.code yX1_has cX1_has 2 (some .boolean) ∈ gw := gw_of (w := Cond.code yX1_has cX1_has 2 (some .boolean)) (by decide +kernel) (by decide +kernel)
theorem wd_21 : Cond.methodLink RX1 35 yX1_has ∈ gw := gw_of (w := Cond.methodLink RX1 35 yX1_has) (by decide +kernel) (by decide +kernel)
theorem wd_22 : Cond.instanceMethod yX1_has ∈ gw := gw_of (w := Cond.instanceMethod yX1_has) (by decide +kernel) (by decide +kernel)
theorem wd_23 : Cond.selects RX1 yX1_has yX1_has ∈ gw := gw_of (w := Cond.selects RX1 yX1_has yX1_has) (by decide +kernel) (by decide +kernel)
theorem wd_24 : Cond.initialized RX1 ∈ gw := gw_of (w := Cond.initialized RX1) (by decide +kernel) (by decide +kernel)
theorem vqX1_35 : VQ RX1 35 yX1_has cX1_has 2 (some .boolean) 2 1 := ⟨⟨wd_21, wd_22, wd_23, wd_24, wd_20⟩, ⟨_, rfl, rfl⟩, by decide, by decide, by decide +kernel, by decide +kernel, by decide +kernel, by decide⟩
theorem wd_25 : Cond.code yX1_addPut cX1_addPut 6 (some .boolean) ∈ gw := gw_of (w := Cond.code yX1_addPut cX1_addPut 6 (some .boolean)) (by decide +kernel) (by decide +kernel)
theorem wd_26 : Cond.methodLink RX1 39 yX1_addPut ∈ gw := gw_of (w := Cond.methodLink RX1 39 yX1_addPut) (by decide +kernel) (by decide +kernel)
theorem wd_27 : Cond.instanceMethod yX1_addPut ∈ gw := gw_of (w := Cond.instanceMethod yX1_addPut) (by decide +kernel) (by decide +kernel)
theorem wd_28 : Cond.selects RX1 yX1_addPut yX1_addPut ∈ gw := gw_of (w := Cond.selects RX1 yX1_addPut yX1_addPut) (by decide +kernel) (by decide +kernel)
theorem vqX1_39 : VQ RX1 39 yX1_addPut cX1_addPut 6 (some .boolean) 2 4 := ⟨⟨wd_26, wd_27, wd_28, wd_24, wd_25⟩, ⟨_, rfl, rfl⟩, by decide, by decide, by decide +kernel, by decide +kernel, by decide +kernel, by decide⟩
theorem wd_29 : Cond.code yX1_addEntry cX1_addEntry 6 (some .boolean) ∈ gw := gw_of (w := Cond.code yX1_addEntry cX1_addEntry 6 (some .boolean)) (by decide +kernel) (by decide +kernel)
theorem wd_30 : Cond.methodLink RX1 43 yX1_addEntry ∈ gw := gw_of (w := Cond.methodLink RX1 43 yX1_addEntry) (by decide +kernel) (by decide +kernel)
theorem wd_31 : Cond.instanceMethod yX1_addEntry ∈ gw := gw_of (w := Cond.instanceMethod yX1_addEntry) (by decide +kernel) (by decide +kernel)
theorem wd_32 : Cond.selects RX1 yX1_addEntry yX1_addEntry ∈ gw := gw_of (w := Cond.selects RX1 yX1_addEntry yX1_addEntry) (by decide +kernel) (by decide +kernel)
theorem vqX1_43 : VQ RX1 43 yX1_addEntry cX1_addEntry 6 (some .boolean) 2 5 := ⟨⟨wd_30, wd_31, wd_32, wd_24, wd_29⟩, ⟨_, rfl, rfl⟩, by decide, by decide, by decide +kernel, by decide +kernel, by decide +kernel, by decide⟩
theorem wd_33 : Cond.code yX1_addSame cX1_addSame 3 (some .boolean) ∈ gw := gw_of (w := Cond.code yX1_addSame cX1_addSame 3 (some .boolean)) (by decide +kernel) (by decide +kernel)
theorem wd_34 : Cond.methodLink RX1 47 yX1_addSame ∈ gw := gw_of (w := Cond.methodLink RX1 47 yX1_addSame) (by decide +kernel) (by decide +kernel)
theorem wd_35 : Cond.instanceMethod yX1_addSame ∈ gw := gw_of (w := Cond.instanceMethod yX1_addSame) (by decide +kernel) (by decide +kernel)
theorem wd_36 : Cond.selects RX1 yX1_addSame yX1_addSame ∈ gw := gw_of (w := Cond.selects RX1 yX1_addSame yX1_addSame) (by decide +kernel) (by decide +kernel)
theorem vqX1_47 : VQ RX1 47 yX1_addSame cX1_addSame 3 (some .boolean) 2 2 := ⟨⟨wd_34, wd_35, wd_36, wd_24, wd_33⟩, ⟨_, rfl, rfl⟩, by decide, by decide, by decide +kernel, by decide +kernel, by decide +kernel, by decide⟩
theorem wd_37 : Cond.methodLink RX2 3 Lib.objectInit ∈ gw := gw_of (w := Cond.methodLink RX2 3 Lib.objectInit) (by decide +kernel) (by decide +kernel)
theorem oqX2_3 : OQ RX2 3 := ⟨wd_37, wd_1, wd_2⟩
theorem wd_38 : Cond.classLink RX2 9 (qn 3) ∈ gw := gw_of (w := Cond.classLink RX2 9 (qn 3)) (by decide +kernel) (by decide +kernel)
theorem aqX2_9 : Cond.classLink RX2 9 (qn 3) ∈ gw := wd_38
theorem wd_39 : Cond.fieldLink RX2 11 (TX2 4).1 (TX2 4).2.1 (TX2 4).2.2.1 ∈ gw := gw_of (w := Cond.fieldLink RX2 11 (TX2 4).1 (TX2 4).2.1 (TX2 4).2.2.1) (by decide +kernel) (by decide +kernel)
theorem fqX2_11 : FQ RX2 11 3 4 true (.array (.object "CopyReplace$Phrase")) true := ⟨by decide, by decide, RX2, TX2, 6, tyX2, rfl, igX2, by decide, rfl, wd_39, rfl, tyX2_ok, nmX2, rfl, by decide +kernel, rfl⟩
theorem wd_40 : Cond.fieldLink RX2 17 (TX2 0).1 (TX2 0).2.1 (TX2 0).2.2.1 ∈ gw := gw_of (w := Cond.fieldLink RX2 17 (TX2 0).1 (TX2 0).2.1 (TX2 0).2.2.1) (by decide +kernel) (by decide +kernel)
theorem fqX2_17 : FQ RX2 17 3 0 false (.int) true := ⟨by decide, by decide, RX2, TX2, 6, tyX2, rfl, igX2, by decide, rfl, wd_40, rfl, tyX2_ok, nmX2, rfl, by decide +kernel, rfl⟩
theorem wd_41 : Cond.fieldLink RX2 21 (TX2 1).1 (TX2 1).2.1 (TX2 1).2.2.1 ∈ gw := gw_of (w := Cond.fieldLink RX2 21 (TX2 1).1 (TX2 1).2.1 (TX2 1).2.2.1) (by decide +kernel) (by decide +kernel)
theorem fqX2_21 : FQ RX2 21 3 1 false (.boolean) true := ⟨by decide, by decide, RX2, TX2, 6, tyX2, rfl, igX2, by decide, rfl, wd_41, rfl, tyX2_ok, nmX2, rfl, by decide +kernel, rfl⟩
theorem wd_42 : Cond.fieldLink RX2 25 (TX2 2).1 (TX2 2).2.1 (TX2 2).2.2.1 ∈ gw := gw_of (w := Cond.fieldLink RX2 25 (TX2 2).1 (TX2 2).2.1 (TX2 2).2.2.1) (by decide +kernel) (by decide +kernel)
theorem fqX2_25 : FQ RX2 25 3 2 false (.int) true := ⟨by decide, by decide, RX2, TX2, 6, tyX2, rfl, igX2, by decide, rfl, wd_42, rfl, tyX2_ok, nmX2, rfl, by decide +kernel, rfl⟩
theorem wd_43 : Cond.fieldLink RX2 28 (TX2 3).1 (TX2 3).2.1 (TX2 3).2.2.1 ∈ gw := gw_of (w := Cond.fieldLink RX2 28 (TX2 3).1 (TX2 3).2.1 (TX2 3).2.2.1) (by decide +kernel) (by decide +kernel)
theorem fqX2_28 : FQ RX2 28 3 3 false (.boolean) true := ⟨by decide, by decide, RX2, TX2, 6, tyX2, rfl, igX2, by decide, rfl, wd_43, rfl, tyX2_ok, nmX2, rfl, by decide +kernel, rfl⟩
theorem wd_44 : Cond.fieldLink RX2 31 (TX2 5).1 (TX2 5).2.1 (TX2 5).2.2.1 ∈ gw := gw_of (w := Cond.fieldLink RX2 31 (TX2 5).1 (TX2 5).2.1 (TX2 5).2.2.1) (by decide +kernel) (by decide +kernel)
theorem fqX2_31 : FQ RX2 31 3 5 false (.int) false := ⟨by decide, by decide, RX2, TX2, 6, tyX2, rfl, igX2, by decide, rfl, wd_44, rfl, tyX2_ok, nmX2, rfl, by decide +kernel, rfl⟩
theorem wd_45 : Cond.methodLink RX3 3 Lib.objectInit ∈ gw := gw_of (w := Cond.methodLink RX3 3 Lib.objectInit) (by decide +kernel) (by decide +kernel)
theorem oqX3_3 : OQ RX3 3 := ⟨wd_45, wd_1, wd_2⟩
theorem wd_46 : Cond.classLink RX3 9 RX1 ∈ gw := gw_of (w := Cond.classLink RX3 9 RX1) (by decide +kernel) (by decide +kernel)
theorem wd_47 : Cond.instantiable RX1 7 ∈ gw := gw_of (w := Cond.instantiable RX1 7) (by decide +kernel) (by decide +kernel)
theorem nqX3_9 : NQ RX3 9 2 7 := ⟨by decide, by decide, RX1, TX1, tyX1, rfl, igX1, rfl, tyX1_ok, wd_46, wd_47, wd_24, by decide +kernel⟩
theorem wd_48 : Cond.code yX1_init cX1_init 1 none ∈ gw := gw_of (w := Cond.code yX1_init cX1_init 1 none) (by decide +kernel) (by decide +kernel)
theorem wd_49 : Cond.instanceMethod yX1_init ∈ gw := gw_of (w := Cond.instanceMethod yX1_init) (by decide +kernel) (by decide +kernel)
theorem jqX3_11 : JQ RX3 11 yX1_init cX1_init 1 0 RX5 := ⟨⟨by decide +kernel, wd_49, wd_24, wd_48⟩, rfl, by decide +kernel, by decide +kernel, by decide +kernel, by decide⟩
theorem wd_50 : Cond.fieldLink RX3 12 (TX3 2).1 (TX3 2).2.1 (TX3 2).2.2.1 ∈ gw := gw_of (w := Cond.fieldLink RX3 12 (TX3 2).1 (TX3 2).2.1 (TX3 2).2.2.1) (by decide +kernel) (by decide +kernel)
theorem fqX3_12 : FQ RX3 12 4 2 true (.object "CopyReplace$Row") true := ⟨by decide, by decide, RX3, TX3, 5, tyX3, rfl, igX3, by decide, rfl, wd_50, rfl, tyX3_ok, nmX3, rfl, by decide +kernel, rfl⟩
theorem wd_51 : Cond.fieldLink RX3 18 (TX3 3).1 (TX3 3).2.1 (TX3 3).2.2.1 ∈ gw := gw_of (w := Cond.fieldLink RX3 18 (TX3 3).1 (TX3 3).2.1 (TX3 3).2.2.1) (by decide +kernel) (by decide +kernel)
theorem fqX3_18 : FQ RX3 18 4 3 true (.array .int) true := ⟨by decide, by decide, RX3, TX3, 5, tyX3, rfl, igX3, by decide, rfl, wd_51, rfl, tyX3_ok, nmX3, rfl, by decide +kernel, rfl⟩
theorem wd_52 : Cond.fieldLink RX3 22 (TX3 0).1 (TX3 0).2.1 (TX3 0).2.2.1 ∈ gw := gw_of (w := Cond.fieldLink RX3 22 (TX3 0).1 (TX3 0).2.1 (TX3 0).2.2.1) (by decide +kernel) (by decide +kernel)
theorem fqX3_22 : FQ RX3 22 4 0 false (.int) true := ⟨by decide, by decide, RX3, TX3, 5, tyX3, rfl, igX3, by decide, rfl, wd_52, rfl, tyX3_ok, nmX3, rfl, by decide +kernel, rfl⟩
theorem wd_53 : Cond.fieldLink RX3 26 (TX3 1).1 (TX3 1).2.1 (TX3 1).2.2.1 ∈ gw := gw_of (w := Cond.fieldLink RX3 26 (TX3 1).1 (TX3 1).2.1 (TX3 1).2.2.1) (by decide +kernel) (by decide +kernel)
theorem fqX3_26 : FQ RX3 26 4 1 false (.int) true := ⟨by decide, by decide, RX3, TX3, 5, tyX3, rfl, igX3, by decide, rfl, wd_53, rfl, tyX3_ok, nmX3, rfl, by decide +kernel, rfl⟩
theorem wd_54 : Cond.fieldLink RX3 29 (TX3 4).1 (TX3 4).2.1 (TX3 4).2.2.1 ∈ gw := gw_of (w := Cond.fieldLink RX3 29 (TX3 4).1 (TX3 4).2.1 (TX3 4).2.2.1) (by decide +kernel) (by decide +kernel)
theorem fqX3_29 : FQ RX3 29 4 4 false (.int) false := ⟨by decide, by decide, RX3, TX3, 5, tyX3, rfl, igX3, by decide, rfl, wd_54, rfl, tyX3_ok, nmX3, rfl, by decide +kernel, rfl⟩
theorem wd_55 : Cond.methodLink RX4 3 Lib.objectInit ∈ gw := gw_of (w := Cond.methodLink RX4 3 Lib.objectInit) (by decide +kernel) (by decide +kernel)
theorem oqX4_3 : OQ RX4 3 := ⟨wd_55, wd_1, wd_2⟩
theorem wd_56 : Cond.fieldLink RX4 9 (TX4 0).1 (TX4 0).2.1 (TX4 0).2.2.1 ∈ gw := gw_of (w := Cond.fieldLink RX4 9 (TX4 0).1 (TX4 0).2.1 (TX4 0).2.2.1) (by decide +kernel) (by decide +kernel)
theorem fqX4_9 : FQ RX4 9 5 0 true (.array .int) true := ⟨by decide, by decide, RX4, TX4, 2, tyX4, rfl, igX4, by decide, rfl, wd_56, rfl, tyX4_ok, nmX4, rfl, by decide +kernel, rfl⟩
theorem wd_57 : Cond.fieldLink RX4 15 (TX4 1).1 (TX4 1).2.1 (TX4 1).2.2.1 ∈ gw := gw_of (w := Cond.fieldLink RX4 15 (TX4 1).1 (TX4 1).2.1 (TX4 1).2.2.1) (by decide +kernel) (by decide +kernel)
theorem fqX4_15 : FQ RX4 15 5 1 false (.int) false := ⟨by decide, by decide, RX4, TX4, 2, tyX4, rfl, igX4, by decide, rfl, wd_57, rfl, tyX4_ok, nmX4, rfl, by decide +kernel, rfl⟩
theorem wd_58 : Cond.code yX4_isFull cX4_isFull 1 (some .boolean) ∈ gw := gw_of (w := Cond.code yX4_isFull cX4_isFull 1 (some .boolean)) (by decide +kernel) (by decide +kernel)
theorem wd_59 : Cond.methodLink RX4 19 yX4_isFull ∈ gw := gw_of (w := Cond.methodLink RX4 19 yX4_isFull) (by decide +kernel) (by decide +kernel)
theorem wd_60 : Cond.instanceMethod yX4_isFull ∈ gw := gw_of (w := Cond.instanceMethod yX4_isFull) (by decide +kernel) (by decide +kernel)
theorem wd_61 : Cond.selects RX4 yX4_isFull yX4_isFull ∈ gw := gw_of (w := Cond.selects RX4 yX4_isFull yX4_isFull) (by decide +kernel) (by decide +kernel)
theorem vqX4_19 : VQ RX4 19 yX4_isFull cX4_isFull 1 (some .boolean) 5 0 := ⟨⟨wd_59, wd_60, wd_61, wd_5, wd_58⟩, ⟨_, rfl, rfl⟩, by decide, by decide, by decide +kernel, by decide +kernel, by decide +kernel, by decide⟩
theorem wd_62 : Cond.methodLink RX5 1 Lib.objectInit ∈ gw := gw_of (w := Cond.methodLink RX5 1 Lib.objectInit) (by decide +kernel) (by decide +kernel)
theorem oqX5_1 : OQ RX5 1 := ⟨wd_62, wd_1, wd_2⟩
theorem wd_63 : Cond.classLink RX5 9 (qn 5) ∈ gw := gw_of (w := Cond.classLink RX5 9 (qn 5)) (by decide +kernel) (by decide +kernel)
theorem aqX5_9 : Cond.classLink RX5 9 (qn 5) ∈ gw := wd_63
theorem wd_64 : Cond.fieldLink RX5 11 (TX5 0).1 (TX5 0).2.1 (TX5 0).2.2.1 ∈ gw := gw_of (w := Cond.fieldLink RX5 11 (TX5 0).1 (TX5 0).2.1 (TX5 0).2.2.1) (by decide +kernel) (by decide +kernel)
theorem fqX5_11 : FQ RX5 11 6 0 true (.array (.object "CopyReplace$Text")) true := ⟨by decide, by decide, RX5, TX5, 13, tyX5, rfl, igX5, by decide, rfl, wd_64, rfl, tyX5_ok, nmX5, rfl, by decide +kernel, rfl⟩
theorem wd_65 : Cond.classLink RX5 15 (qn 4) ∈ gw := gw_of (w := Cond.classLink RX5 15 (qn 4)) (by decide +kernel) (by decide +kernel)
theorem aqX5_15 : Cond.classLink RX5 15 (qn 4) ∈ gw := wd_65
theorem wd_66 : Cond.fieldLink RX5 17 (TX5 1).1 (TX5 1).2.1 (TX5 1).2.2.1 ∈ gw := gw_of (w := Cond.fieldLink RX5 17 (TX5 1).1 (TX5 1).2.1 (TX5 1).2.2.1) (by decide +kernel) (by decide +kernel)
theorem fqX5_17 : FQ RX5 17 6 1 true (.array (.object "CopyReplace$Statement")) true := ⟨by decide, by decide, RX5, TX5, 13, tyX5, rfl, igX5, by decide, rfl, wd_66, rfl, tyX5_ok, nmX5, rfl, by decide +kernel, rfl⟩
theorem wd_67 : Cond.classLink RX5 21 (qn 3) ∈ gw := gw_of (w := Cond.classLink RX5 21 (qn 3)) (by decide +kernel) (by decide +kernel)
theorem aqX5_21 : Cond.classLink RX5 21 (qn 3) ∈ gw := wd_67
theorem wd_68 : Cond.fieldLink RX5 23 (TX5 2).1 (TX5 2).2.1 (TX5 2).2.2.1 ∈ gw := gw_of (w := Cond.fieldLink RX5 23 (TX5 2).1 (TX5 2).2.1 (TX5 2).2.2.1) (by decide +kernel) (by decide +kernel)
theorem fqX5_23 : FQ RX5 23 6 2 true (.array (.object "CopyReplace$Phrase")) true := ⟨by decide, by decide, RX5, TX5, 13, tyX5, rfl, igX5, by decide, rfl, wd_68, rfl, tyX5_ok, nmX5, rfl, by decide +kernel, rfl⟩
theorem wd_69 : Cond.fieldLink RX5 27 (TX5 6).1 (TX5 6).2.1 (TX5 6).2.2.1 ∈ gw := gw_of (w := Cond.fieldLink RX5 27 (TX5 6).1 (TX5 6).2.1 (TX5 6).2.2.1) (by decide +kernel) (by decide +kernel)
theorem fqX5_27 : FQ RX5 27 6 6 true (.array (.object "CopyReplace$Text")) true := ⟨by decide, by decide, RX5, TX5, 13, tyX5, rfl, igX5, by decide, rfl, wd_69, rfl, tyX5_ok, nmX5, rfl, by decide +kernel, rfl⟩
theorem wd_70 : Cond.classLink RX5 30 RX1 ∈ gw := gw_of (w := Cond.classLink RX5 30 RX1) (by decide +kernel) (by decide +kernel)
theorem nqX5_30 : NQ RX5 30 2 7 := ⟨by decide, by decide, RX1, TX1, tyX1, rfl, igX1, rfl, tyX1_ok, wd_70, wd_47, wd_24, by decide +kernel⟩
theorem jqX5_32 : JQ RX5 32 yX1_init cX1_init 1 0 RX5 := ⟨⟨by decide +kernel, wd_49, wd_24, wd_48⟩, rfl, by decide +kernel, by decide +kernel, by decide +kernel, by decide⟩
theorem wd_71 : Cond.fieldLink RX5 33 (TX5 7).1 (TX5 7).2.1 (TX5 7).2.2.1 ∈ gw := gw_of (w := Cond.fieldLink RX5 33 (TX5 7).1 (TX5 7).2.1 (TX5 7).2.2.1) (by decide +kernel) (by decide +kernel)
theorem fqX5_33 : FQ RX5 33 6 7 true (.object "CopyReplace$Row") true := ⟨by decide, by decide, RX5, TX5, 13, tyX5, rfl, igX5, by decide, rfl, wd_71, rfl, tyX5_ok, nmX5, rfl, by decide +kernel, rfl⟩
theorem wd_72 : Cond.fieldLink RX5 37 (TX5 8).1 (TX5 8).2.1 (TX5 8).2.2.1 ∈ gw := gw_of (w := Cond.fieldLink RX5 37 (TX5 8).1 (TX5 8).2.1 (TX5 8).2.2.1) (by decide +kernel) (by decide +kernel)
theorem fqX5_37 : FQ RX5 37 6 8 true (.object "CopyReplace$Row") true := ⟨by decide, by decide, RX5, TX5, 13, tyX5, rfl, igX5, by decide, rfl, wd_72, rfl, tyX5_ok, nmX5, rfl, by decide +kernel, rfl⟩
theorem wd_73 : Cond.fieldLink RX5 40 (TX5 9).1 (TX5 9).2.1 (TX5 9).2.2.1 ∈ gw := gw_of (w := Cond.fieldLink RX5 40 (TX5 9).1 (TX5 9).2.1 (TX5 9).2.2.1) (by decide +kernel) (by decide +kernel)
theorem fqX5_40 : FQ RX5 40 6 9 true (.array .int) true := ⟨by decide, by decide, RX5, TX5, 13, tyX5, rfl, igX5, by decide, rfl, wd_73, rfl, tyX5_ok, nmX5, rfl, by decide +kernel, rfl⟩
theorem wd_74 : Cond.classLink RX5 9 RX3 ∈ gw := gw_of (w := Cond.classLink RX5 9 RX3) (by decide +kernel) (by decide +kernel)
theorem wd_75 : Cond.instantiable RX3 5 ∈ gw := gw_of (w := Cond.instantiable RX3 5) (by decide +kernel) (by decide +kernel)
theorem wd_76 : Cond.initialized RX3 ∈ gw := gw_of (w := Cond.initialized RX3) (by decide +kernel) (by decide +kernel)
theorem nqX5_9 : NQ RX5 9 4 5 := ⟨by decide, by decide, RX3, TX3, tyX3, rfl, igX3, rfl, tyX3_ok, wd_74, wd_75, wd_76, by decide +kernel⟩
theorem wd_77 : Cond.code yX3_init cX3_init 3 none ∈ gw := gw_of (w := Cond.code yX3_init cX3_init 3 none) (by decide +kernel) (by decide +kernel)
theorem wd_78 : Cond.methodLink RX5 44 yX3_init ∈ gw := gw_of (w := Cond.methodLink RX5 44 yX3_init) (by decide +kernel) (by decide +kernel)
theorem wd_79 : Cond.instanceMethod yX3_init ∈ gw := gw_of (w := Cond.instanceMethod yX3_init) (by decide +kernel) (by decide +kernel)
theorem iqX5_44 : IQ RX5 44 yX3_init cX3_init 3 2 := ⟨⟨wd_78, wd_79, wd_76, wd_77⟩, rfl, by decide +kernel, by decide +kernel, by decide +kernel, by decide⟩
theorem wd_80 : Cond.fieldLink RX5 47 (TX5 3).1 (TX5 3).2.1 (TX5 3).2.2.1 ∈ gw := gw_of (w := Cond.fieldLink RX5 47 (TX5 3).1 (TX5 3).2.1 (TX5 3).2.2.1) (by decide +kernel) (by decide +kernel)
theorem fqX5_47 : FQ RX5 47 6 3 false (.int) false := ⟨by decide, by decide, RX5, TX5, 13, tyX5, rfl, igX5, by decide, rfl, wd_80, rfl, tyX5_ok, nmX5, rfl, by decide +kernel, rfl⟩
theorem wd_81 : Cond.code yX5_isName cX5_isName 1 (some .boolean) ∈ gw := gw_of (w := Cond.code yX5_isName cX5_isName 1 (some .boolean)) (by decide +kernel) (by decide +kernel)
theorem wd_82 : Cond.methodLink RX5 51 yX5_isName ∈ gw := gw_of (w := Cond.methodLink RX5 51 yX5_isName) (by decide +kernel) (by decide +kernel)
theorem wd_83 : Cond.static yX5_isName ∈ gw := gw_of (w := Cond.static yX5_isName) (by decide +kernel) (by decide +kernel)
theorem wd_84 : Cond.initialized RX5 ∈ gw := gw_of (w := Cond.initialized RX5) (by decide +kernel) (by decide +kernel)
theorem sqX5_51 : SQ RX5 51 yX5_isName cX5_isName 1 (some .boolean) 1 := ⟨⟨wd_82, wd_83, wd_84, wd_81⟩, rfl, by decide +kernel, by decide +kernel, by decide +kernel, by decide⟩
theorem wd_85 : Cond.code yX5_textNumbered cX5_textNumbered 2 (some (.object "CopyReplace$Text")) ∈ gw := gw_of (w := Cond.code yX5_textNumbered cX5_textNumbered 2 (some (.object "CopyReplace$Text"))) (by decide +kernel) (by decide +kernel)
theorem wd_86 : Cond.methodLink RX5 55 yX5_textNumbered ∈ gw := gw_of (w := Cond.methodLink RX5 55 yX5_textNumbered) (by decide +kernel) (by decide +kernel)
theorem wd_87 : Cond.instanceMethod yX5_textNumbered ∈ gw := gw_of (w := Cond.instanceMethod yX5_textNumbered) (by decide +kernel) (by decide +kernel)
theorem wd_88 : Cond.selects RX5 yX5_textNumbered yX5_textNumbered ∈ gw := gw_of (w := Cond.selects RX5 yX5_textNumbered yX5_textNumbered) (by decide +kernel) (by decide +kernel)
theorem vqX5_55 : VQ RX5 55 yX5_textNumbered cX5_textNumbered 2 (some (.object "CopyReplace$Text")) 6 1 := ⟨⟨wd_86, wd_87, wd_88, wd_84, wd_85⟩, ⟨_, rfl, rfl⟩, by decide, by decide, by decide +kernel, by decide +kernel, by decide +kernel, by decide⟩
theorem wd_89 : Cond.code yX5_isPlain cX5_isPlain 1 (some .boolean) ∈ gw := gw_of (w := Cond.code yX5_isPlain cX5_isPlain 1 (some .boolean)) (by decide +kernel) (by decide +kernel)
theorem wd_90 : Cond.methodLink RX5 59 yX5_isPlain ∈ gw := gw_of (w := Cond.methodLink RX5 59 yX5_isPlain) (by decide +kernel) (by decide +kernel)
theorem wd_91 : Cond.static yX5_isPlain ∈ gw := gw_of (w := Cond.static yX5_isPlain) (by decide +kernel) (by decide +kernel)
theorem sqX5_59 : SQ RX5 59 yX5_isPlain cX5_isPlain 1 (some .boolean) 1 := ⟨⟨wd_90, wd_91, wd_84, wd_89⟩, rfl, by decide +kernel, by decide +kernel, by decide +kernel, by decide⟩
theorem wd_92 : Cond.code yX3_append cX3_append 2 (some .boolean) ∈ gw := gw_of (w := Cond.code yX3_append cX3_append 2 (some .boolean)) (by decide +kernel) (by decide +kernel)
theorem wd_93 : Cond.methodLink RX5 62 yX3_append ∈ gw := gw_of (w := Cond.methodLink RX5 62 yX3_append) (by decide +kernel) (by decide +kernel)
theorem wd_94 : Cond.instanceMethod yX3_append ∈ gw := gw_of (w := Cond.instanceMethod yX3_append) (by decide +kernel) (by decide +kernel)
theorem wd_95 : Cond.selects RX3 yX3_append yX3_append ∈ gw := gw_of (w := Cond.selects RX3 yX3_append yX3_append) (by decide +kernel) (by decide +kernel)
theorem vqX5_62 : VQ RX5 62 yX3_append cX3_append 2 (some .boolean) 4 1 := ⟨⟨wd_93, wd_94, wd_95, wd_76, wd_92⟩, ⟨_, rfl, rfl⟩, by decide, by decide, by decide +kernel, by decide +kernel, by decide +kernel, by decide⟩
theorem wd_96 : Cond.fieldLink RX5 65 (TX3 4).1 (TX3 4).2.1 (TX3 4).2.2.1 ∈ gw := gw_of (w := Cond.fieldLink RX5 65 (TX3 4).1 (TX3 4).2.1 (TX3 4).2.2.1) (by decide +kernel) (by decide +kernel)
theorem fqX5_65 : FQ RX5 65 4 4 false (.int) false := ⟨by decide, by decide, RX3, TX3, 5, tyX3, rfl, igX3, by decide, rfl, wd_96, rfl, tyX3_ok, nmX3, rfl, by decide +kernel, rfl⟩
theorem wd_97 : Cond.code yX5_addStatement cX5_addStatement 6 (some .int) ∈ gw := gw_of (w := Cond.code yX5_addStatement cX5_addStatement 6 (some .int)) (by decide +kernel) (by decide +kernel)
theorem wd_98 : Cond.methodLink RX5 68 yX5_addStatement ∈ gw := gw_of (w := Cond.methodLink RX5 68 yX5_addStatement) (by decide +kernel) (by decide +kernel)
theorem wd_99 : Cond.instanceMethod yX5_addStatement ∈ gw := gw_of (w := Cond.instanceMethod yX5_addStatement) (by decide +kernel) (by decide +kernel)
theorem wd_100 : Cond.selects RX5 yX5_addStatement yX5_addStatement ∈ gw := gw_of (w := Cond.selects RX5 yX5_addStatement yX5_addStatement) (by decide +kernel) (by decide +kernel)
theorem vqX5_68 : VQ RX5 68 yX5_addStatement cX5_addStatement 6 (some .int) 6 4 := ⟨⟨wd_98, wd_99, wd_100, wd_84, wd_97⟩, ⟨_, rfl, rfl⟩, by decide, by decide, by decide +kernel, by decide +kernel, by decide +kernel, by decide⟩
theorem wd_101 : Cond.code yX5_statementNumbered cX5_statementNumbered 2 (some (.object "CopyReplace$Statement")) ∈ gw := gw_of (w := Cond.code yX5_statementNumbered cX5_statementNumbered 2 (some (.object "CopyReplace$Statement"))) (by decide +kernel) (by decide +kernel)
theorem wd_102 : Cond.methodLink RX5 72 yX5_statementNumbered ∈ gw := gw_of (w := Cond.methodLink RX5 72 yX5_statementNumbered) (by decide +kernel) (by decide +kernel)
theorem wd_103 : Cond.instanceMethod yX5_statementNumbered ∈ gw := gw_of (w := Cond.instanceMethod yX5_statementNumbered) (by decide +kernel) (by decide +kernel)
theorem wd_104 : Cond.selects RX5 yX5_statementNumbered yX5_statementNumbered ∈ gw := gw_of (w := Cond.selects RX5 yX5_statementNumbered yX5_statementNumbered) (by decide +kernel) (by decide +kernel)
theorem vqX5_72 : VQ RX5 72 yX5_statementNumbered cX5_statementNumbered 2 (some (.object "CopyReplace$Statement")) 6 1 := ⟨⟨wd_102, wd_103, wd_104, wd_84, wd_101⟩, ⟨_, rfl, rfl⟩, by decide, by decide, by decide +kernel, by decide +kernel, by decide +kernel, by decide⟩
theorem wd_105 : Cond.code yX5_isWord cX5_isWord 3 (some .boolean) ∈ gw := gw_of (w := Cond.code yX5_isWord cX5_isWord 3 (some .boolean)) (by decide +kernel) (by decide +kernel)
theorem wd_106 : Cond.methodLink RX5 76 yX5_isWord ∈ gw := gw_of (w := Cond.methodLink RX5 76 yX5_isWord) (by decide +kernel) (by decide +kernel)
theorem wd_107 : Cond.static yX5_isWord ∈ gw := gw_of (w := Cond.static yX5_isWord) (by decide +kernel) (by decide +kernel)
theorem sqX5_76 : SQ RX5 76 yX5_isWord cX5_isWord 3 (some .boolean) 1 := ⟨⟨wd_106, wd_107, wd_84, wd_105⟩, rfl, by decide +kernel, by decide +kernel, by decide +kernel, by decide⟩
theorem wd_108 : Cond.fieldLink RX5 79 (TX5 5).1 (TX5 5).2.1 (TX5 5).2.2.1 ∈ gw := gw_of (w := Cond.fieldLink RX5 79 (TX5 5).1 (TX5 5).2.1 (TX5 5).2.2.1) (by decide +kernel) (by decide +kernel)
theorem fqX5_79 : FQ RX5 79 6 5 false (.int) false := ⟨by decide, by decide, RX5, TX5, 13, tyX5, rfl, igX5, by decide, rfl, wd_108, rfl, tyX5_ok, nmX5, rfl, by decide +kernel, rfl⟩
theorem wd_109 : Cond.fieldLink RX5 82 (TX2 5).1 (TX2 5).2.1 (TX2 5).2.2.1 ∈ gw := gw_of (w := Cond.fieldLink RX5 82 (TX2 5).1 (TX2 5).2.1 (TX2 5).2.2.1) (by decide +kernel) (by decide +kernel)
theorem fqX5_82 : FQ RX5 82 3 5 false (.int) false := ⟨by decide, by decide, RX2, TX2, 6, tyX2, rfl, igX2, by decide, rfl, wd_109, rfl, tyX2_ok, nmX2, rfl, by decide +kernel, rfl⟩
theorem wd_110 : Cond.classLink RX5 21 RX0 ∈ gw := gw_of (w := Cond.classLink RX5 21 RX0) (by decide +kernel) (by decide +kernel)
theorem wd_111 : Cond.instantiable RX0 4 ∈ gw := gw_of (w := Cond.instantiable RX0 4) (by decide +kernel) (by decide +kernel)
theorem wd_112 : Cond.initialized RX0 ∈ gw := gw_of (w := Cond.initialized RX0) (by decide +kernel) (by decide +kernel)
theorem nqX5_21 : NQ RX5 21 1 4 := ⟨by decide, by decide, RX0, TX0, tyX0, rfl, igX0, rfl, tyX0_ok, wd_110, wd_111, wd_112, by decide +kernel⟩
theorem wd_113 : Cond.code yX0_init cX0_init 3 none ∈ gw := gw_of (w := Cond.code yX0_init cX0_init 3 none) (by decide +kernel) (by decide +kernel)
theorem wd_114 : Cond.methodLink RX5 83 yX0_init ∈ gw := gw_of (w := Cond.methodLink RX5 83 yX0_init) (by decide +kernel) (by decide +kernel)
theorem wd_115 : Cond.instanceMethod yX0_init ∈ gw := gw_of (w := Cond.instanceMethod yX0_init) (by decide +kernel) (by decide +kernel)
theorem iqX5_83 : IQ RX5 83 yX0_init cX0_init 3 2 := ⟨⟨wd_114, wd_115, wd_112, wd_113⟩, rfl, by decide +kernel, by decide +kernel, by decide +kernel, by decide⟩
theorem wd_116 : Cond.fieldLink RX5 84 (TX0 2).1 (TX0 2).2.1 (TX0 2).2.2.1 ∈ gw := gw_of (w := Cond.fieldLink RX5 84 (TX0 2).1 (TX0 2).2.1 (TX0 2).2.2.1) (by decide +kernel) (by decide +kernel)
theorem fqX5_84 : FQ RX5 84 1 2 true (.object "CopyReplace$Words") true := ⟨by decide, by decide, RX0, TX0, 4, tyX0, rfl, igX0, by decide, rfl, wd_116, rfl, tyX0_ok, nmX0, rfl, by decide +kernel, rfl⟩
theorem wd_117 : Cond.code yX4_append cX4_append 2 none ∈ gw := gw_of (w := Cond.code yX4_append cX4_append 2 none) (by decide +kernel) (by decide +kernel)
theorem wd_118 : Cond.methodLink RX5 88 yX4_append ∈ gw := gw_of (w := Cond.methodLink RX5 88 yX4_append) (by decide +kernel) (by decide +kernel)
theorem wd_119 : Cond.instanceMethod yX4_append ∈ gw := gw_of (w := Cond.instanceMethod yX4_append) (by decide +kernel) (by decide +kernel)
theorem wd_120 : Cond.selects RX4 yX4_append yX4_append ∈ gw := gw_of (w := Cond.selects RX4 yX4_append yX4_append) (by decide +kernel) (by decide +kernel)
theorem vqX5_88 : VQ RX5 88 yX4_append cX4_append 2 none 5 1 := ⟨⟨wd_118, wd_119, wd_120, wd_5, wd_117⟩, ⟨_, rfl, rfl⟩, by decide, by decide, by decide +kernel, by decide +kernel, by decide +kernel, by decide⟩
theorem wd_121 : Cond.code yX2_append cX2_append 2 none ∈ gw := gw_of (w := Cond.code yX2_append cX2_append 2 none) (by decide +kernel) (by decide +kernel)
theorem wd_122 : Cond.methodLink RX5 93 yX2_append ∈ gw := gw_of (w := Cond.methodLink RX5 93 yX2_append) (by decide +kernel) (by decide +kernel)
theorem wd_123 : Cond.instanceMethod yX2_append ∈ gw := gw_of (w := Cond.instanceMethod yX2_append) (by decide +kernel) (by decide +kernel)
theorem wd_124 : Cond.selects RX2 yX2_append yX2_append ∈ gw := gw_of (w := Cond.selects RX2 yX2_append yX2_append) (by decide +kernel) (by decide +kernel)
theorem wd_125 : Cond.initialized RX2 ∈ gw := gw_of (w := Cond.initialized RX2) (by decide +kernel) (by decide +kernel)
theorem vqX5_93 : VQ RX5 93 yX2_append cX2_append 2 none 3 1 := ⟨⟨wd_122, wd_123, wd_124, wd_125, wd_121⟩, ⟨_, rfl, rfl⟩, by decide, by decide, by decide +kernel, by decide +kernel, by decide +kernel, by decide⟩
theorem wd_126 : Cond.fieldLink RX5 96 (TX0 0).1 (TX0 0).2.1 (TX0 0).2.2.1 ∈ gw := gw_of (w := Cond.fieldLink RX5 96 (TX0 0).1 (TX0 0).2.1 (TX0 0).2.2.1) (by decide +kernel) (by decide +kernel)
theorem fqX5_96 : FQ RX5 96 1 0 false (.int) true := ⟨by decide, by decide, RX0, TX0, 4, tyX0, rfl, igX0, by decide, rfl, wd_126, rfl, tyX0_ok, nmX0, rfl, by decide +kernel, rfl⟩
theorem wd_127 : Cond.code yX5_phraseNumbered cX5_phraseNumbered 2 (some (.object "CopyReplace$Phrase")) ∈ gw := gw_of (w := Cond.code yX5_phraseNumbered cX5_phraseNumbered 2 (some (.object "CopyReplace$Phrase"))) (by decide +kernel) (by decide +kernel)
theorem wd_128 : Cond.methodLink RX5 99 yX5_phraseNumbered ∈ gw := gw_of (w := Cond.methodLink RX5 99 yX5_phraseNumbered) (by decide +kernel) (by decide +kernel)
theorem wd_129 : Cond.instanceMethod yX5_phraseNumbered ∈ gw := gw_of (w := Cond.instanceMethod yX5_phraseNumbered) (by decide +kernel) (by decide +kernel)
theorem wd_130 : Cond.selects RX5 yX5_phraseNumbered yX5_phraseNumbered ∈ gw := gw_of (w := Cond.selects RX5 yX5_phraseNumbered yX5_phraseNumbered) (by decide +kernel) (by decide +kernel)
theorem vqX5_99 : VQ RX5 99 yX5_phraseNumbered cX5_phraseNumbered 2 (some (.object "CopyReplace$Phrase")) 6 1 := ⟨⟨wd_128, wd_129, wd_130, wd_84, wd_127⟩, ⟨_, rfl, rfl⟩, by decide, by decide, by decide +kernel, by decide +kernel, by decide +kernel, by decide⟩
theorem wd_131 : Cond.fieldLink RX5 103 (TX0 1).1 (TX0 1).2.1 (TX0 1).2.2.1 ∈ gw := gw_of (w := Cond.fieldLink RX5 103 (TX0 1).1 (TX0 1).2.1 (TX0 1).2.2.1) (by decide +kernel) (by decide +kernel)
theorem fqX5_103 : FQ RX5 103 1 1 false (.int) true := ⟨by decide, by decide, RX0, TX0, 4, tyX0, rfl, igX0, by decide, rfl, wd_131, rfl, tyX0_ok, nmX0, rfl, by decide +kernel, rfl⟩
theorem wd_132 : Cond.methodLink RX5 106 yX4_isFull ∈ gw := gw_of (w := Cond.methodLink RX5 106 yX4_isFull) (by decide +kernel) (by decide +kernel)
theorem vqX5_106 : VQ RX5 106 yX4_isFull cX4_isFull 1 (some .boolean) 5 0 := ⟨⟨wd_132, wd_60, wd_61, wd_5, wd_58⟩, ⟨_, rfl, rfl⟩, by decide, by decide, by decide +kernel, by decide +kernel, by decide +kernel, by decide⟩
theorem wd_133 : Cond.fieldLink RX5 110 (TX4 1).1 (TX4 1).2.1 (TX4 1).2.2.1 ∈ gw := gw_of (w := Cond.fieldLink RX5 110 (TX4 1).1 (TX4 1).2.1 (TX4 1).2.2.1) (by decide +kernel) (by decide +kernel)
theorem fqX5_110 : FQ RX5 110 5 1 false (.int) false := ⟨by decide, by decide, RX4, TX4, 2, tyX4, rfl, igX4, by decide, rfl, wd_133, rfl, tyX4_ok, nmX4, rfl, by decide +kernel, rfl⟩
theorem wd_134 : Cond.fieldLink RX5 111 (TX0 3).1 (TX0 3).2.1 (TX0 3).2.2.1 ∈ gw := gw_of (w := Cond.fieldLink RX5 111 (TX0 3).1 (TX0 3).2.1 (TX0 3).2.2.1) (by decide +kernel) (by decide +kernel)
theorem fqX5_111 : FQ RX5 111 1 3 true (.object "CopyReplace$Words") true := ⟨by decide, by decide, RX0, TX0, 4, tyX0, rfl, igX0, by decide, rfl, wd_134, rfl, tyX0_ok, nmX0, rfl, by decide +kernel, rfl⟩
theorem wd_135 : Cond.code yX1_clear cX1_clear 1 none ∈ gw := gw_of (w := Cond.code yX1_clear cX1_clear 1 none) (by decide +kernel) (by decide +kernel)
theorem wd_136 : Cond.methodLink RX5 114 yX1_clear ∈ gw := gw_of (w := Cond.methodLink RX5 114 yX1_clear) (by decide +kernel) (by decide +kernel)
theorem wd_137 : Cond.instanceMethod yX1_clear ∈ gw := gw_of (w := Cond.instanceMethod yX1_clear) (by decide +kernel) (by decide +kernel)
theorem wd_138 : Cond.selects RX1 yX1_clear yX1_clear ∈ gw := gw_of (w := Cond.selects RX1 yX1_clear yX1_clear) (by decide +kernel) (by decide +kernel)
theorem vqX5_114 : VQ RX5 114 yX1_clear cX1_clear 1 none 2 0 := ⟨⟨wd_136, wd_137, wd_138, wd_24, wd_135⟩, ⟨_, rfl, rfl⟩, by decide, by decide, by decide +kernel, by decide +kernel, by decide +kernel, by decide⟩
theorem wd_139 : Cond.fieldLink RX5 117 (TX5 10).1 (TX5 10).2.1 (TX5 10).2.2.1 ∈ gw := gw_of (w := Cond.fieldLink RX5 117 (TX5 10).1 (TX5 10).2.1 (TX5 10).2.2.1) (by decide +kernel) (by decide +kernel)
theorem fqX5_117 : FQ RX5 117 6 10 false (.int) false := ⟨by decide, by decide, RX5, TX5, 13, tyX5, rfl, igX5, by decide, rfl, wd_139, rfl, tyX5_ok, nmX5, rfl, by decide +kernel, rfl⟩
theorem wd_140 : Cond.fieldLink RX5 120 (TX5 11).1 (TX5 11).2.1 (TX5 11).2.2.1 ∈ gw := gw_of (w := Cond.fieldLink RX5 120 (TX5 11).1 (TX5 11).2.1 (TX5 11).2.2.1) (by decide +kernel) (by decide +kernel)
theorem fqX5_120 : FQ RX5 120 6 11 false (.int) false := ⟨by decide, by decide, RX5, TX5, 13, tyX5, rfl, igX5, by decide, rfl, wd_140, rfl, tyX5_ok, nmX5, rfl, by decide +kernel, rfl⟩
theorem wd_141 : Cond.fieldLink RX5 123 (TX5 12).1 (TX5 12).2.1 (TX5 12).2.2.1 ∈ gw := gw_of (w := Cond.fieldLink RX5 123 (TX5 12).1 (TX5 12).2.1 (TX5 12).2.2.1) (by decide +kernel) (by decide +kernel)
theorem fqX5_123 : FQ RX5 123 6 12 false (.int) false := ⟨by decide, by decide, RX5, TX5, 13, tyX5, rfl, igX5, by decide, rfl, wd_141, rfl, tyX5_ok, nmX5, rfl, by decide +kernel, rfl⟩
theorem wd_142 : Cond.fieldLink RX5 126 (TX1 6).1 (TX1 6).2.1 (TX1 6).2.2.1 ∈ gw := gw_of (w := Cond.fieldLink RX5 126 (TX1 6).1 (TX1 6).2.1 (TX1 6).2.2.1) (by decide +kernel) (by decide +kernel)
theorem fqX5_126 : FQ RX5 126 2 6 false (.int) false := ⟨by decide, by decide, RX1, TX1, 7, tyX1, rfl, igX1, by decide, rfl, wd_142, rfl, tyX1_ok, nmX1, rfl, by decide +kernel, rfl⟩
theorem wd_143 : Cond.code yX5_makeRow cX5_makeRow 8 (some .int) ∈ gw := gw_of (w := Cond.code yX5_makeRow cX5_makeRow 8 (some .int)) (by decide +kernel) (by decide +kernel)
theorem wd_144 : Cond.methodLink RX5 127 yX5_makeRow ∈ gw := gw_of (w := Cond.methodLink RX5 127 yX5_makeRow) (by decide +kernel) (by decide +kernel)
theorem wd_145 : Cond.instanceMethod yX5_makeRow ∈ gw := gw_of (w := Cond.instanceMethod yX5_makeRow) (by decide +kernel) (by decide +kernel)
theorem wd_146 : Cond.selects RX5 yX5_makeRow yX5_makeRow ∈ gw := gw_of (w := Cond.selects RX5 yX5_makeRow yX5_makeRow) (by decide +kernel) (by decide +kernel)
theorem vqX5_127 : VQ RX5 127 yX5_makeRow cX5_makeRow 8 (some .int) 6 3 := ⟨⟨wd_144, wd_145, wd_146, wd_84, wd_143⟩, ⟨_, rfl, rfl⟩, by decide, by decide, by decide +kernel, by decide +kernel, by decide +kernel, by decide⟩
theorem wd_147 : Cond.fieldLink RX5 131 (TX3 2).1 (TX3 2).2.1 (TX3 2).2.2.1 ∈ gw := gw_of (w := Cond.fieldLink RX5 131 (TX3 2).1 (TX3 2).2.1 (TX3 2).2.2.1) (by decide +kernel) (by decide +kernel)
theorem fqX5_131 : FQ RX5 131 4 2 true (.object "CopyReplace$Row") true := ⟨by decide, by decide, RX3, TX3, 5, tyX3, rfl, igX3, by decide, rfl, wd_147, rfl, tyX3_ok, nmX3, rfl, by decide +kernel, rfl⟩
theorem wd_148 : Cond.code yX5_matchByReplaces cX5_matchByReplaces 7 (some .int) ∈ gw := gw_of (w := Cond.code yX5_matchByReplaces cX5_matchByReplaces 7 (some .int)) (by decide +kernel) (by decide +kernel)
theorem wd_149 : Cond.methodLink RX5 134 yX5_matchByReplaces ∈ gw := gw_of (w := Cond.methodLink RX5 134 yX5_matchByReplaces) (by decide +kernel) (by decide +kernel)
theorem wd_150 : Cond.instanceMethod yX5_matchByReplaces ∈ gw := gw_of (w := Cond.instanceMethod yX5_matchByReplaces) (by decide +kernel) (by decide +kernel)
theorem wd_151 : Cond.selects RX5 yX5_matchByReplaces yX5_matchByReplaces ∈ gw := gw_of (w := Cond.selects RX5 yX5_matchByReplaces yX5_matchByReplaces) (by decide +kernel) (by decide +kernel)
theorem vqX5_134 : VQ RX5 134 yX5_matchByReplaces cX5_matchByReplaces 7 (some .int) 6 1 := ⟨⟨wd_149, wd_150, wd_151, wd_84, wd_148⟩, ⟨_, rfl, rfl⟩, by decide, by decide, by decide +kernel, by decide +kernel, by decide +kernel, by decide⟩
theorem wd_152 : Cond.methodLink RX5 138 yX1_has ∈ gw := gw_of (w := Cond.methodLink RX5 138 yX1_has) (by decide +kernel) (by decide +kernel)
theorem vqX5_138 : VQ RX5 138 yX1_has cX1_has 2 (some .boolean) 2 1 := ⟨⟨wd_152, wd_22, wd_23, wd_24, wd_20⟩, ⟨_, rfl, rfl⟩, by decide, by decide, by decide +kernel, by decide +kernel, by decide +kernel, by decide⟩
theorem wd_153 : Cond.code yX1_code cX1_code 2 (some .int) ∈ gw := gw_of (w := Cond.code yX1_code cX1_code 2 (some .int)) (by decide +kernel) (by decide +kernel)
theorem wd_154 : Cond.methodLink RX5 144 yX1_code ∈ gw := gw_of (w := Cond.methodLink RX5 144 yX1_code) (by decide +kernel) (by decide +kernel)
theorem wd_155 : Cond.instanceMethod yX1_code ∈ gw := gw_of (w := Cond.instanceMethod yX1_code) (by decide +kernel) (by decide +kernel)
theorem wd_156 : Cond.selects RX1 yX1_code yX1_code ∈ gw := gw_of (w := Cond.selects RX1 yX1_code yX1_code) (by decide +kernel) (by decide +kernel)
theorem vqX5_144 : VQ RX5 144 yX1_code cX1_code 2 (some .int) 2 1 := ⟨⟨wd_154, wd_155, wd_156, wd_24, wd_153⟩, ⟨_, rfl, rfl⟩, by decide, by decide, by decide +kernel, by decide +kernel, by decide +kernel, by decide⟩
theorem wd_157 : Cond.fieldLink RX5 148 (TX1 1).1 (TX1 1).2.1 (TX1 1).2.2.1 ∈ gw := gw_of (w := Cond.fieldLink RX5 148 (TX1 1).1 (TX1 1).2.1 (TX1 1).2.2.1) (by decide +kernel) (by decide +kernel)
theorem fqX5_148 : FQ RX5 148 2 1 true (.array .int) true := ⟨by decide, by decide, RX1, TX1, 7, tyX1, rfl, igX1, by decide, rfl, wd_157, rfl, tyX1_ok, nmX1, rfl, by decide +kernel, rfl⟩
theorem wd_158 : Cond.fieldLink RX5 150 (TX1 2).1 (TX1 2).2.1 (TX1 2).2.2.1 ∈ gw := gw_of (w := Cond.fieldLink RX5 150 (TX1 2).1 (TX1 2).2.1 (TX1 2).2.2.1) (by decide +kernel) (by decide +kernel)
theorem fqX5_150 : FQ RX5 150 2 2 true (.array .int) true := ⟨by decide, by decide, RX1, TX1, 7, tyX1, rfl, igX1, by decide, rfl, wd_158, rfl, tyX1_ok, nmX1, rfl, by decide +kernel, rfl⟩
theorem wd_159 : Cond.fieldLink RX5 153 (TX1 3).1 (TX1 3).2.1 (TX1 3).2.2.1 ∈ gw := gw_of (w := Cond.fieldLink RX5 153 (TX1 3).1 (TX1 3).2.1 (TX1 3).2.2.1) (by decide +kernel) (by decide +kernel)
theorem fqX5_153 : FQ RX5 153 2 3 true (.array .int) true := ⟨by decide, by decide, RX1, TX1, 7, tyX1, rfl, igX1, by decide, rfl, wd_159, rfl, tyX1_ok, nmX1, rfl, by decide +kernel, rfl⟩
theorem wd_160 : Cond.fieldLink RX5 155 (TX1 5).1 (TX1 5).2.1 (TX1 5).2.2.1 ∈ gw := gw_of (w := Cond.fieldLink RX5 155 (TX1 5).1 (TX1 5).2.1 (TX1 5).2.2.1) (by decide +kernel) (by decide +kernel)
theorem fqX5_155 : FQ RX5 155 2 5 true (.array .boolean) true := ⟨by decide, by decide, RX1, TX1, 7, tyX1, rfl, igX1, by decide, rfl, wd_160, rfl, tyX1_ok, nmX1, rfl, by decide +kernel, rfl⟩
theorem wd_161 : Cond.fieldLink RX5 159 (TX1 4).1 (TX1 4).2.1 (TX1 4).2.2.1 ∈ gw := gw_of (w := Cond.fieldLink RX5 159 (TX1 4).1 (TX1 4).2.1 (TX1 4).2.2.1) (by decide +kernel) (by decide +kernel)
theorem fqX5_159 : FQ RX5 159 2 4 true (.array .int) true := ⟨by decide, by decide, RX1, TX1, 7, tyX1, rfl, igX1, by decide, rfl, wd_161, rfl, tyX1_ok, nmX1, rfl, by decide +kernel, rfl⟩
theorem wd_162 : Cond.fieldLink RX5 162 (TX5 4).1 (TX5 4).2.1 (TX5 4).2.2.1 ∈ gw := gw_of (w := Cond.fieldLink RX5 162 (TX5 4).1 (TX5 4).2.1 (TX5 4).2.2.1) (by decide +kernel) (by decide +kernel)
theorem fqX5_162 : FQ RX5 162 6 4 false (.int) false := ⟨by decide, by decide, RX5, TX5, 13, tyX5, rfl, igX5, by decide, rfl, wd_162, rfl, tyX5_ok, nmX5, rfl, by decide +kernel, rfl⟩
theorem wd_163 : Cond.classLink RX5 15 RX2 ∈ gw := gw_of (w := Cond.classLink RX5 15 RX2) (by decide +kernel) (by decide +kernel)
theorem wd_164 : Cond.instantiable RX2 6 ∈ gw := gw_of (w := Cond.instantiable RX2 6) (by decide +kernel) (by decide +kernel)
theorem nqX5_15 : NQ RX5 15 3 6 := ⟨by decide, by decide, RX2, TX2, tyX2, rfl, igX2, rfl, tyX2_ok, wd_163, wd_164, wd_125, by decide +kernel⟩
theorem wd_165 : Cond.code yX2_init cX2_init 5 none ∈ gw := gw_of (w := Cond.code yX2_init cX2_init 5 none) (by decide +kernel) (by decide +kernel)
theorem wd_166 : Cond.methodLink RX5 165 yX2_init ∈ gw := gw_of (w := Cond.methodLink RX5 165 yX2_init) (by decide +kernel) (by decide +kernel)
theorem wd_167 : Cond.instanceMethod yX2_init ∈ gw := gw_of (w := Cond.instanceMethod yX2_init) (by decide +kernel) (by decide +kernel)
theorem iqX5_165 : IQ RX5 165 yX2_init cX2_init 5 4 := ⟨⟨wd_166, wd_167, wd_125, wd_165⟩, rfl, by decide +kernel, by decide +kernel, by decide +kernel, by decide⟩
theorem wd_168 : Cond.fieldLink RX5 168 (TX2 0).1 (TX2 0).2.1 (TX2 0).2.2.1 ∈ gw := gw_of (w := Cond.fieldLink RX5 168 (TX2 0).1 (TX2 0).2.1 (TX2 0).2.2.1) (by decide +kernel) (by decide +kernel)
theorem fqX5_168 : FQ RX5 168 3 0 false (.int) true := ⟨by decide, by decide, RX2, TX2, 6, tyX2, rfl, igX2, by decide, rfl, wd_168, rfl, tyX2_ok, nmX2, rfl, by decide +kernel, rfl⟩
theorem wd_169 : Cond.fieldLink RX5 169 (TX3 1).1 (TX3 1).2.1 (TX3 1).2.2.1 ∈ gw := gw_of (w := Cond.fieldLink RX5 169 (TX3 1).1 (TX3 1).2.1 (TX3 1).2.2.1) (by decide +kernel) (by decide +kernel)
theorem fqX5_169 : FQ RX5 169 4 1 false (.int) true := ⟨by decide, by decide, RX3, TX3, 5, tyX3, rfl, igX3, by decide, rfl, wd_169, rfl, tyX3_ok, nmX3, rfl, by decide +kernel, rfl⟩
theorem wd_170 : Cond.code yX3_entry cX3_entry 2 (some .int) ∈ gw := gw_of (w := Cond.code yX3_entry cX3_entry 2 (some .int)) (by decide +kernel) (by decide +kernel)
theorem wd_171 : Cond.methodLink RX5 172 yX3_entry ∈ gw := gw_of (w := Cond.methodLink RX5 172 yX3_entry) (by decide +kernel) (by decide +kernel)
theorem wd_172 : Cond.instanceMethod yX3_entry ∈ gw := gw_of (w := Cond.instanceMethod yX3_entry) (by decide +kernel) (by decide +kernel)
theorem wd_173 : Cond.selects RX3 yX3_entry yX3_entry ∈ gw := gw_of (w := Cond.selects RX3 yX3_entry yX3_entry) (by decide +kernel) (by decide +kernel)
theorem vqX5_172 : VQ RX5 172 yX3_entry cX3_entry 2 (some .int) 4 1 := ⟨⟨wd_171, wd_172, wd_173, wd_76, wd_170⟩, ⟨_, rfl, rfl⟩, by decide, by decide, by decide +kernel, by decide +kernel, by decide +kernel, by decide⟩
theorem wd_174 : Cond.code yX5_statementOf cX5_statementOf 2 (some (.object "CopyReplace$Statement")) ∈ gw := gw_of (w := Cond.code yX5_statementOf cX5_statementOf 2 (some (.object "CopyReplace$Statement"))) (by decide +kernel) (by decide +kernel)
theorem wd_175 : Cond.methodLink RX5 175 yX5_statementOf ∈ gw := gw_of (w := Cond.methodLink RX5 175 yX5_statementOf) (by decide +kernel) (by decide +kernel)
theorem wd_176 : Cond.instanceMethod yX5_statementOf ∈ gw := gw_of (w := Cond.instanceMethod yX5_statementOf) (by decide +kernel) (by decide +kernel)
theorem wd_177 : Cond.selects RX5 yX5_statementOf yX5_statementOf ∈ gw := gw_of (w := Cond.selects RX5 yX5_statementOf yX5_statementOf) (by decide +kernel) (by decide +kernel)
theorem vqX5_175 : VQ RX5 175 yX5_statementOf cX5_statementOf 2 (some (.object "CopyReplace$Statement")) 6 1 := ⟨⟨wd_175, wd_176, wd_177, wd_84, wd_174⟩, ⟨_, rfl, rfl⟩, by decide, by decide, by decide +kernel, by decide +kernel, by decide +kernel, by decide⟩
theorem wd_178 : Cond.fieldLink RX5 178 (TX2 1).1 (TX2 1).2.1 (TX2 1).2.2.1 ∈ gw := gw_of (w := Cond.fieldLink RX5 178 (TX2 1).1 (TX2 1).2.1 (TX2 1).2.2.1) (by decide +kernel) (by decide +kernel)
theorem fqX5_178 : FQ RX5 178 3 1 false (.boolean) true := ⟨by decide, by decide, RX2, TX2, 6, tyX2, rfl, igX2, by decide, rfl, wd_178, rfl, tyX2_ok, nmX2, rfl, by decide +kernel, rfl⟩
theorem wd_179 : Cond.code yX5_addCopy cX5_addCopy 7 (some .int) ∈ gw := gw_of (w := Cond.code yX5_addCopy cX5_addCopy 7 (some .int)) (by decide +kernel) (by decide +kernel)
theorem wd_180 : Cond.methodLink RX5 182 yX5_addCopy ∈ gw := gw_of (w := Cond.methodLink RX5 182 yX5_addCopy) (by decide +kernel) (by decide +kernel)
theorem wd_181 : Cond.instanceMethod yX5_addCopy ∈ gw := gw_of (w := Cond.instanceMethod yX5_addCopy) (by decide +kernel) (by decide +kernel)
theorem wd_182 : Cond.selects RX5 yX5_addCopy yX5_addCopy ∈ gw := gw_of (w := Cond.selects RX5 yX5_addCopy yX5_addCopy) (by decide +kernel) (by decide +kernel)
theorem vqX5_182 : VQ RX5 182 yX5_addCopy cX5_addCopy 7 (some .int) 6 4 := ⟨⟨wd_180, wd_181, wd_182, wd_84, wd_179⟩, ⟨_, rfl, rfl⟩, by decide, by decide, by decide +kernel, by decide +kernel, by decide +kernel, by decide⟩
theorem wd_183 : Cond.fieldLink RX5 186 (TX3 0).1 (TX3 0).2.1 (TX3 0).2.2.1 ∈ gw := gw_of (w := Cond.fieldLink RX5 186 (TX3 0).1 (TX3 0).2.1 (TX3 0).2.2.1) (by decide +kernel) (by decide +kernel)
theorem fqX5_186 : FQ RX5 186 4 0 false (.int) true := ⟨by decide, by decide, RX3, TX3, 5, tyX3, rfl, igX3, by decide, rfl, wd_183, rfl, tyX3_ok, nmX3, rfl, by decide +kernel, rfl⟩
theorem wd_184 : Cond.methodLink RX5 187 yX1_addEntry ∈ gw := gw_of (w := Cond.methodLink RX5 187 yX1_addEntry) (by decide +kernel) (by decide +kernel)
theorem vqX5_187 : VQ RX5 187 yX1_addEntry cX1_addEntry 6 (some .boolean) 2 5 := ⟨⟨wd_184, wd_31, wd_32, wd_24, wd_29⟩, ⟨_, rfl, rfl⟩, by decide, by decide, by decide +kernel, by decide +kernel, by decide +kernel, by decide⟩
theorem wd_185 : Cond.fieldLink RX5 191 (TX2 2).1 (TX2 2).2.1 (TX2 2).2.2.1 ∈ gw := gw_of (w := Cond.fieldLink RX5 191 (TX2 2).1 (TX2 2).2.1 (TX2 2).2.2.1) (by decide +kernel) (by decide +kernel)
theorem fqX5_191 : FQ RX5 191 3 2 false (.int) true := ⟨by decide, by decide, RX2, TX2, 6, tyX2, rfl, igX2, by decide, rfl, wd_185, rfl, tyX2_ok, nmX2, rfl, by decide +kernel, rfl⟩
theorem wd_186 : Cond.code yX5_textNamed cX5_textNamed 4 (some (.object "CopyReplace$Text")) ∈ gw := gw_of (w := Cond.code yX5_textNamed cX5_textNamed 4 (some (.object "CopyReplace$Text"))) (by decide +kernel) (by decide +kernel)
theorem wd_187 : Cond.methodLink RX5 192 yX5_textNamed ∈ gw := gw_of (w := Cond.methodLink RX5 192 yX5_textNamed) (by decide +kernel) (by decide +kernel)
theorem wd_188 : Cond.instanceMethod yX5_textNamed ∈ gw := gw_of (w := Cond.instanceMethod yX5_textNamed) (by decide +kernel) (by decide +kernel)
theorem wd_189 : Cond.selects RX5 yX5_textNamed yX5_textNamed ∈ gw := gw_of (w := Cond.selects RX5 yX5_textNamed yX5_textNamed) (by decide +kernel) (by decide +kernel)
theorem vqX5_192 : VQ RX5 192 yX5_textNamed cX5_textNamed 4 (some (.object "CopyReplace$Text")) 6 1 := ⟨⟨wd_187, wd_188, wd_189, wd_84, wd_186⟩, ⟨_, rfl, rfl⟩, by decide, by decide, by decide +kernel, by decide +kernel, by decide +kernel, by decide⟩
theorem wd_190 : Cond.code yX5_closesRing cX5_closesRing 5 (some .boolean) ∈ gw := gw_of (w := Cond.code yX5_closesRing cX5_closesRing 5 (some .boolean)) (by decide +kernel) (by decide +kernel)
theorem wd_191 : Cond.methodLink RX5 195 yX5_closesRing ∈ gw := gw_of (w := Cond.methodLink RX5 195 yX5_closesRing) (by decide +kernel) (by decide +kernel)
theorem wd_192 : Cond.instanceMethod yX5_closesRing ∈ gw := gw_of (w := Cond.instanceMethod yX5_closesRing) (by decide +kernel) (by decide +kernel)
theorem wd_193 : Cond.selects RX5 yX5_closesRing yX5_closesRing ∈ gw := gw_of (w := Cond.selects RX5 yX5_closesRing yX5_closesRing) (by decide +kernel) (by decide +kernel)
theorem vqX5_195 : VQ RX5 195 yX5_closesRing cX5_closesRing 5 (some .boolean) 6 2 := ⟨⟨wd_191, wd_192, wd_193, wd_84, wd_190⟩, ⟨_, rfl, rfl⟩, by decide, by decide, by decide +kernel, by decide +kernel, by decide +kernel, by decide⟩
theorem wd_194 : Cond.fieldLink RX5 199 (TX2 3).1 (TX2 3).2.1 (TX2 3).2.2.1 ∈ gw := gw_of (w := Cond.fieldLink RX5 199 (TX2 3).1 (TX2 3).2.1 (TX2 3).2.2.1) (by decide +kernel) (by decide +kernel)
theorem fqX5_199 : FQ RX5 199 3 3 false (.boolean) true := ⟨by decide, by decide, RX2, TX2, 6, tyX2, rfl, igX2, by decide, rfl, wd_194, rfl, tyX2_ok, nmX2, rfl, by decide +kernel, rfl⟩
theorem wd_195 : Cond.code yX5_matchPart cX5_matchPart 8 (some .int) ∈ gw := gw_of (w := Cond.code yX5_matchPart cX5_matchPart 8 (some .int)) (by decide +kernel) (by decide +kernel)
theorem wd_196 : Cond.methodLink RX5 201 yX5_matchPart ∈ gw := gw_of (w := Cond.methodLink RX5 201 yX5_matchPart) (by decide +kernel) (by decide +kernel)
theorem wd_197 : Cond.instanceMethod yX5_matchPart ∈ gw := gw_of (w := Cond.instanceMethod yX5_matchPart) (by decide +kernel) (by decide +kernel)
theorem wd_198 : Cond.selects RX5 yX5_matchPart yX5_matchPart ∈ gw := gw_of (w := Cond.selects RX5 yX5_matchPart yX5_matchPart) (by decide +kernel) (by decide +kernel)
theorem vqX5_201 : VQ RX5 201 yX5_matchPart cX5_matchPart 8 (some .int) 6 5 := ⟨⟨wd_196, wd_197, wd_198, wd_84, wd_195⟩, ⟨_, rfl, rfl⟩, by decide, by decide, by decide +kernel, by decide +kernel, by decide +kernel, by decide⟩
theorem wd_199 : Cond.code yX1_addAll cX1_addAll 3 (some .boolean) ∈ gw := gw_of (w := Cond.code yX1_addAll cX1_addAll 3 (some .boolean)) (by decide +kernel) (by decide +kernel)
theorem wd_200 : Cond.methodLink RX5 205 yX1_addAll ∈ gw := gw_of (w := Cond.methodLink RX5 205 yX1_addAll) (by decide +kernel) (by decide +kernel)
theorem wd_201 : Cond.instanceMethod yX1_addAll ∈ gw := gw_of (w := Cond.instanceMethod yX1_addAll) (by decide +kernel) (by decide +kernel)
theorem wd_202 : Cond.selects RX1 yX1_addAll yX1_addAll ∈ gw := gw_of (w := Cond.selects RX1 yX1_addAll yX1_addAll) (by decide +kernel) (by decide +kernel)
theorem vqX5_205 : VQ RX5 205 yX1_addAll cX1_addAll 3 (some .boolean) 2 1 := ⟨⟨wd_200, wd_201, wd_202, wd_24, wd_199⟩, ⟨_, rfl, rfl⟩, by decide, by decide, by decide +kernel, by decide +kernel, by decide +kernel, by decide⟩
theorem wd_203 : Cond.code yX5_keepRingName cX5_keepRingName 2 none ∈ gw := gw_of (w := Cond.code yX5_keepRingName cX5_keepRingName 2 none) (by decide +kernel) (by decide +kernel)
theorem wd_204 : Cond.methodLink RX5 209 yX5_keepRingName ∈ gw := gw_of (w := Cond.methodLink RX5 209 yX5_keepRingName) (by decide +kernel) (by decide +kernel)
theorem wd_205 : Cond.instanceMethod yX5_keepRingName ∈ gw := gw_of (w := Cond.instanceMethod yX5_keepRingName) (by decide +kernel) (by decide +kernel)
theorem wd_206 : Cond.selects RX5 yX5_keepRingName yX5_keepRingName ∈ gw := gw_of (w := Cond.selects RX5 yX5_keepRingName yX5_keepRingName) (by decide +kernel) (by decide +kernel)
theorem vqX5_209 : VQ RX5 209 yX5_keepRingName cX5_keepRingName 2 none 6 1 := ⟨⟨wd_204, wd_205, wd_206, wd_84, wd_203⟩, ⟨_, rfl, rfl⟩, by decide, by decide, by decide +kernel, by decide +kernel, by decide +kernel, by decide⟩
theorem wd_207 : Cond.code yX5_matchAt cX5_matchAt 11 (some .int) ∈ gw := gw_of (w := Cond.code yX5_matchAt cX5_matchAt 11 (some .int)) (by decide +kernel) (by decide +kernel)
theorem wd_208 : Cond.methodLink RX5 213 yX5_matchAt ∈ gw := gw_of (w := Cond.methodLink RX5 213 yX5_matchAt) (by decide +kernel) (by decide +kernel)
theorem wd_209 : Cond.instanceMethod yX5_matchAt ∈ gw := gw_of (w := Cond.instanceMethod yX5_matchAt) (by decide +kernel) (by decide +kernel)
theorem wd_210 : Cond.selects RX5 yX5_matchAt yX5_matchAt ∈ gw := gw_of (w := Cond.selects RX5 yX5_matchAt yX5_matchAt) (by decide +kernel) (by decide +kernel)
theorem vqX5_213 : VQ RX5 213 yX5_matchAt cX5_matchAt 11 (some .int) 6 5 := ⟨⟨wd_208, wd_209, wd_210, wd_84, wd_207⟩, ⟨_, rfl, rfl⟩, by decide, by decide, by decide +kernel, by decide +kernel, by decide +kernel, by decide⟩
theorem wd_211 : Cond.code yX2_get cX2_get 2 (some (.object "CopyReplace$Phrase")) ∈ gw := gw_of (w := Cond.code yX2_get cX2_get 2 (some (.object "CopyReplace$Phrase"))) (by decide +kernel) (by decide +kernel)
theorem wd_212 : Cond.methodLink RX5 216 yX2_get ∈ gw := gw_of (w := Cond.methodLink RX5 216 yX2_get) (by decide +kernel) (by decide +kernel)
theorem wd_213 : Cond.instanceMethod yX2_get ∈ gw := gw_of (w := Cond.instanceMethod yX2_get) (by decide +kernel) (by decide +kernel)
theorem wd_214 : Cond.selects RX2 yX2_get yX2_get ∈ gw := gw_of (w := Cond.selects RX2 yX2_get yX2_get) (by decide +kernel) (by decide +kernel)
theorem vqX5_216 : VQ RX5 216 yX2_get cX2_get 2 (some (.object "CopyReplace$Phrase")) 3 1 := ⟨⟨wd_212, wd_213, wd_214, wd_125, wd_211⟩, ⟨_, rfl, rfl⟩, by decide, by decide, by decide +kernel, by decide +kernel, by decide +kernel, by decide⟩
theorem wd_215 : Cond.code yX5_behindMatch cX5_behindMatch 7 (some .int) ∈ gw := gw_of (w := Cond.code yX5_behindMatch cX5_behindMatch 7 (some .int)) (by decide +kernel) (by decide +kernel)
theorem wd_216 : Cond.methodLink RX5 219 yX5_behindMatch ∈ gw := gw_of (w := Cond.methodLink RX5 219 yX5_behindMatch) (by decide +kernel) (by decide +kernel)
theorem wd_217 : Cond.static yX5_behindMatch ∈ gw := gw_of (w := Cond.static yX5_behindMatch) (by decide +kernel) (by decide +kernel)
theorem sqX5_219 : SQ RX5 219 yX5_behindMatch cX5_behindMatch 7 (some .int) 4 := ⟨⟨wd_216, wd_217, wd_84, wd_215⟩, rfl, by decide +kernel, by decide +kernel, by decide +kernel, by decide⟩
theorem wd_218 : Cond.code yX5_put cX5_put 5 (some .int) ∈ gw := gw_of (w := Cond.code yX5_put cX5_put 5 (some .int)) (by decide +kernel) (by decide +kernel)
theorem wd_219 : Cond.methodLink RX5 223 yX5_put ∈ gw := gw_of (w := Cond.methodLink RX5 223 yX5_put) (by decide +kernel) (by decide +kernel)
theorem wd_220 : Cond.static yX5_put ∈ gw := gw_of (w := Cond.static yX5_put) (by decide +kernel) (by decide +kernel)
theorem sqX5_223 : SQ RX5 223 yX5_put cX5_put 5 (some .int) 4 := ⟨⟨wd_219, wd_220, wd_84, wd_218⟩, rfl, by decide +kernel, by decide +kernel, by decide +kernel, by decide⟩
theorem wd_221 : Cond.methodLink RX5 227 yX1_addSame ∈ gw := gw_of (w := Cond.methodLink RX5 227 yX1_addSame) (by decide +kernel) (by decide +kernel)
theorem vqX5_227 : VQ RX5 227 yX1_addSame cX1_addSame 3 (some .boolean) 2 2 := ⟨⟨wd_221, wd_35, wd_36, wd_24, wd_33⟩, ⟨_, rfl, rfl⟩, by decide, by decide, by decide +kernel, by decide +kernel, by decide +kernel, by decide⟩
theorem wd_222 : Cond.code yX5_hasPart cX5_hasPart 4 (some .boolean) ∈ gw := gw_of (w := Cond.code yX5_hasPart cX5_hasPart 4 (some .boolean)) (by decide +kernel) (by decide +kernel)
theorem wd_223 : Cond.methodLink RX5 231 yX5_hasPart ∈ gw := gw_of (w := Cond.methodLink RX5 231 yX5_hasPart) (by decide +kernel) (by decide +kernel)
theorem wd_224 : Cond.static yX5_hasPart ∈ gw := gw_of (w := Cond.static yX5_hasPart) (by decide +kernel) (by decide +kernel)
theorem sqX5_231 : SQ RX5 231 yX5_hasPart cX5_hasPart 4 (some .boolean) 2 := ⟨⟨wd_223, wd_224, wd_84, wd_222⟩, rfl, by decide +kernel, by decide +kernel, by decide +kernel, by decide⟩
theorem wd_225 : Cond.code yX4_get cX4_get 2 (some .int) ∈ gw := gw_of (w := Cond.code yX4_get cX4_get 2 (some .int)) (by decide +kernel) (by decide +kernel)
theorem wd_226 : Cond.methodLink RX5 235 yX4_get ∈ gw := gw_of (w := Cond.methodLink RX5 235 yX4_get) (by decide +kernel) (by decide +kernel)
theorem wd_227 : Cond.instanceMethod yX4_get ∈ gw := gw_of (w := Cond.instanceMethod yX4_get) (by decide +kernel) (by decide +kernel)
theorem wd_228 : Cond.selects RX4 yX4_get yX4_get ∈ gw := gw_of (w := Cond.selects RX4 yX4_get yX4_get) (by decide +kernel) (by decide +kernel)
theorem vqX5_235 : VQ RX5 235 yX4_get cX4_get 2 (some .int) 5 1 := ⟨⟨wd_226, wd_227, wd_228, wd_5, wd_225⟩, ⟨_, rfl, rfl⟩, by decide, by decide, by decide +kernel, by decide +kernel, by decide +kernel, by decide⟩
theorem wd_229 : Cond.code yX5_withPartChanged cX5_withPartChanged 5 (some .int) ∈ gw := gw_of (w := Cond.code yX5_withPartChanged cX5_withPartChanged 5 (some .int)) (by decide +kernel) (by decide +kernel)
theorem wd_230 : Cond.methodLink RX5 237 yX5_withPartChanged ∈ gw := gw_of (w := Cond.methodLink RX5 237 yX5_withPartChanged) (by decide +kernel) (by decide +kernel)
theorem wd_231 : Cond.static yX5_withPartChanged ∈ gw := gw_of (w := Cond.static yX5_withPartChanged) (by decide +kernel) (by decide +kernel)
theorem sqX5_237 : SQ RX5 237 yX5_withPartChanged cX5_withPartChanged 5 (some .int) 2 := ⟨⟨wd_230, wd_231, wd_84, wd_229⟩, rfl, by decide +kernel, by decide +kernel, by decide +kernel, by decide⟩
theorem wd_232 : Cond.methodLink RX5 241 yX1_addPut ∈ gw := gw_of (w := Cond.methodLink RX5 241 yX1_addPut) (by decide +kernel) (by decide +kernel)
theorem vqX5_241 : VQ RX5 241 yX1_addPut cX1_addPut 6 (some .boolean) 2 4 := ⟨⟨wd_232, wd_27, wd_28, wd_24, wd_25⟩, ⟨_, rfl, rfl⟩, by decide, by decide, by decide +kernel, by decide +kernel, by decide +kernel, by decide⟩
theorem wd_233 : Cond.code yX5_letters cX5_letters 3 (some .int) ∈ gw := gw_of (w := Cond.code yX5_letters cX5_letters 3 (some .int)) (by decide +kernel) (by decide +kernel)
theorem wd_234 : Cond.methodLink RX5 245 yX5_letters ∈ gw := gw_of (w := Cond.methodLink RX5 245 yX5_letters) (by decide +kernel) (by decide +kernel)
theorem wd_235 : Cond.static yX5_letters ∈ gw := gw_of (w := Cond.static yX5_letters) (by decide +kernel) (by decide +kernel)
theorem sqX5_245 : SQ RX5 245 yX5_letters cX5_letters 3 (some .int) 1 := ⟨⟨wd_234, wd_235, wd_84, wd_233⟩, rfl, by decide +kernel, by decide +kernel, by decide +kernel, by decide⟩
theorem wd_236 : Cond.code yX5_withoutLast cX5_withoutLast 4 (some .int) ∈ gw := gw_of (w := Cond.code yX5_withoutLast cX5_withoutLast 4 (some .int)) (by decide +kernel) (by decide +kernel)
theorem wd_237 : Cond.methodLink RX5 248 yX5_withoutLast ∈ gw := gw_of (w := Cond.methodLink RX5 248 yX5_withoutLast) (by decide +kernel) (by decide +kernel)
theorem wd_238 : Cond.static yX5_withoutLast ∈ gw := gw_of (w := Cond.static yX5_withoutLast) (by decide +kernel) (by decide +kernel)
theorem sqX5_248 : SQ RX5 248 yX5_withoutLast cX5_withoutLast 4 (some .int) 2 := ⟨⟨wd_237, wd_238, wd_84, wd_236⟩, rfl, by decide +kernel, by decide +kernel, by decide +kernel, by decide⟩
theorem wd_239 : Cond.code yX5_lastOf cX5_lastOf 6 (some .int) ∈ gw := gw_of (w := Cond.code yX5_lastOf cX5_lastOf 6 (some .int)) (by decide +kernel) (by decide +kernel)
theorem wd_240 : Cond.methodLink RX5 252 yX5_lastOf ∈ gw := gw_of (w := Cond.methodLink RX5 252 yX5_lastOf) (by decide +kernel) (by decide +kernel)
theorem wd_241 : Cond.static yX5_lastOf ∈ gw := gw_of (w := Cond.static yX5_lastOf) (by decide +kernel) (by decide +kernel)
theorem sqX5_252 : SQ RX5 252 yX5_lastOf cX5_lastOf 6 (some .int) 2 := ⟨⟨wd_240, wd_241, wd_84, wd_239⟩, rfl, by decide +kernel, by decide +kernel, by decide +kernel, by decide⟩
theorem wd_242 : Cond.code yX5_power cX5_power 3 (some .int) ∈ gw := gw_of (w := Cond.code yX5_power cX5_power 3 (some .int)) (by decide +kernel) (by decide +kernel)
theorem wd_243 : Cond.methodLink RX5 255 yX5_power ∈ gw := gw_of (w := Cond.methodLink RX5 255 yX5_power) (by decide +kernel) (by decide +kernel)
theorem wd_244 : Cond.static yX5_power ∈ gw := gw_of (w := Cond.static yX5_power) (by decide +kernel) (by decide +kernel)
theorem sqX5_255 : SQ RX5 255 yX5_power cX5_power 3 (some .int) 1 := ⟨⟨wd_243, wd_244, wd_84, wd_242⟩, rfl, by decide +kernel, by decide +kernel, by decide +kernel, by decide⟩
theorem wd_245 : Cond.methodLink RX6 1 Lib.objectInit ∈ gw := gw_of (w := Cond.methodLink RX6 1 Lib.objectInit) (by decide +kernel) (by decide +kernel)
theorem oqX6_1 : OQ RX6 1 := ⟨wd_245, wd_1, wd_2⟩
theorem wd_246 : Cond.fieldLink RX6 7 (TX6 4).1 (TX6 4).2.1 (TX6 4).2.2.1 ∈ gw := gw_of (w := Cond.fieldLink RX6 7 (TX6 4).1 (TX6 4).2.1 (TX6 4).2.2.1) (by decide +kernel) (by decide +kernel)
theorem fqX6_7 : FQ RX6 7 7 4 true (.array .int) true := ⟨by decide, by decide, RX6, TX6, 34, tyX6, rfl, igX6, by decide, rfl, wd_246, rfl, tyX6_ok, nmX6, rfl, by decide +kernel, rfl⟩
theorem wd_247 : Cond.fieldLink RX6 13 (TX6 5).1 (TX6 5).2.1 (TX6 5).2.2.1 ∈ gw := gw_of (w := Cond.fieldLink RX6 13 (TX6 5).1 (TX6 5).2.1 (TX6 5).2.2.1) (by decide +kernel) (by decide +kernel)
theorem fqX6_13 : FQ RX6 13 7 5 true (.array .int) true := ⟨by decide, by decide, RX6, TX6, 34, tyX6, rfl, igX6, by decide, rfl, wd_247, rfl, tyX6_ok, nmX6, rfl, by decide +kernel, rfl⟩
theorem wd_248 : Cond.fieldLink RX6 16 (TX6 6).1 (TX6 6).2.1 (TX6 6).2.2.1 ∈ gw := gw_of (w := Cond.fieldLink RX6 16 (TX6 6).1 (TX6 6).2.1 (TX6 6).2.2.1) (by decide +kernel) (by decide +kernel)
theorem fqX6_16 : FQ RX6 16 7 6 true (.array .int) true := ⟨by decide, by decide, RX6, TX6, 34, tyX6, rfl, igX6, by decide, rfl, wd_248, rfl, tyX6_ok, nmX6, rfl, by decide +kernel, rfl⟩
theorem wd_249 : Cond.fieldLink RX6 19 (TX6 7).1 (TX6 7).2.1 (TX6 7).2.2.1 ∈ gw := gw_of (w := Cond.fieldLink RX6 19 (TX6 7).1 (TX6 7).2.1 (TX6 7).2.2.1) (by decide +kernel) (by decide +kernel)
theorem fqX6_19 : FQ RX6 19 7 7 true (.array .int) true := ⟨by decide, by decide, RX6, TX6, 34, tyX6, rfl, igX6, by decide, rfl, wd_249, rfl, tyX6_ok, nmX6, rfl, by decide +kernel, rfl⟩
theorem wd_250 : Cond.fieldLink RX6 22 (TX6 8).1 (TX6 8).2.1 (TX6 8).2.2.1 ∈ gw := gw_of (w := Cond.fieldLink RX6 22 (TX6 8).1 (TX6 8).2.1 (TX6 8).2.2.1) (by decide +kernel) (by decide +kernel)
theorem fqX6_22 : FQ RX6 22 7 8 true (.array .int) true := ⟨by decide, by decide, RX6, TX6, 34, tyX6, rfl, igX6, by decide, rfl, wd_250, rfl, tyX6_ok, nmX6, rfl, by decide +kernel, rfl⟩
theorem wd_251 : Cond.fieldLink RX6 25 (TX6 9).1 (TX6 9).2.1 (TX6 9).2.2.1 ∈ gw := gw_of (w := Cond.fieldLink RX6 25 (TX6 9).1 (TX6 9).2.1 (TX6 9).2.2.1) (by decide +kernel) (by decide +kernel)
theorem fqX6_25 : FQ RX6 25 7 9 true (.array .int) true := ⟨by decide, by decide, RX6, TX6, 34, tyX6, rfl, igX6, by decide, rfl, wd_251, rfl, tyX6_ok, nmX6, rfl, by decide +kernel, rfl⟩
theorem wd_252 : Cond.fieldLink RX6 28 (TX6 10).1 (TX6 10).2.1 (TX6 10).2.2.1 ∈ gw := gw_of (w := Cond.fieldLink RX6 28 (TX6 10).1 (TX6 10).2.1 (TX6 10).2.2.1) (by decide +kernel) (by decide +kernel)
theorem fqX6_28 : FQ RX6 28 7 10 true (.array .boolean) true := ⟨by decide, by decide, RX6, TX6, 34, tyX6, rfl, igX6, by decide, rfl, wd_252, rfl, tyX6_ok, nmX6, rfl, by decide +kernel, rfl⟩
theorem wd_253 : Cond.fieldLink RX6 32 (TX6 11).1 (TX6 11).2.1 (TX6 11).2.2.1 ∈ gw := gw_of (w := Cond.fieldLink RX6 32 (TX6 11).1 (TX6 11).2.1 (TX6 11).2.2.1) (by decide +kernel) (by decide +kernel)
theorem fqX6_32 : FQ RX6 32 7 11 true (.array .boolean) true := ⟨by decide, by decide, RX6, TX6, 34, tyX6, rfl, igX6, by decide, rfl, wd_253, rfl, tyX6_ok, nmX6, rfl, by decide +kernel, rfl⟩
theorem wd_254 : Cond.fieldLink RX6 35 (TX6 12).1 (TX6 12).2.1 (TX6 12).2.2.1 ∈ gw := gw_of (w := Cond.fieldLink RX6 35 (TX6 12).1 (TX6 12).2.1 (TX6 12).2.2.1) (by decide +kernel) (by decide +kernel)
theorem fqX6_35 : FQ RX6 35 7 12 true (.array .int) true := ⟨by decide, by decide, RX6, TX6, 34, tyX6, rfl, igX6, by decide, rfl, wd_254, rfl, tyX6_ok, nmX6, rfl, by decide +kernel, rfl⟩
theorem wd_255 : Cond.fieldLink RX6 38 (TX6 13).1 (TX6 13).2.1 (TX6 13).2.2.1 ∈ gw := gw_of (w := Cond.fieldLink RX6 38 (TX6 13).1 (TX6 13).2.1 (TX6 13).2.2.1) (by decide +kernel) (by decide +kernel)
theorem fqX6_38 : FQ RX6 38 7 13 true (.array .int) true := ⟨by decide, by decide, RX6, TX6, 34, tyX6, rfl, igX6, by decide, rfl, wd_255, rfl, tyX6_ok, nmX6, rfl, by decide +kernel, rfl⟩
theorem wd_256 : Cond.fieldLink RX6 41 (TX6 14).1 (TX6 14).2.1 (TX6 14).2.2.1 ∈ gw := gw_of (w := Cond.fieldLink RX6 41 (TX6 14).1 (TX6 14).2.1 (TX6 14).2.2.1) (by decide +kernel) (by decide +kernel)
theorem fqX6_41 : FQ RX6 41 7 14 true (.array .int) true := ⟨by decide, by decide, RX6, TX6, 34, tyX6, rfl, igX6, by decide, rfl, wd_256, rfl, tyX6_ok, nmX6, rfl, by decide +kernel, rfl⟩
theorem wd_257 : Cond.fieldLink RX6 44 (TX6 15).1 (TX6 15).2.1 (TX6 15).2.2.1 ∈ gw := gw_of (w := Cond.fieldLink RX6 44 (TX6 15).1 (TX6 15).2.1 (TX6 15).2.2.1) (by decide +kernel) (by decide +kernel)
theorem fqX6_44 : FQ RX6 44 7 15 true (.array .int) true := ⟨by decide, by decide, RX6, TX6, 34, tyX6, rfl, igX6, by decide, rfl, wd_257, rfl, tyX6_ok, nmX6, rfl, by decide +kernel, rfl⟩
theorem wd_258 : Cond.fieldLink RX6 47 (TX6 16).1 (TX6 16).2.1 (TX6 16).2.2.1 ∈ gw := gw_of (w := Cond.fieldLink RX6 47 (TX6 16).1 (TX6 16).2.1 (TX6 16).2.2.1) (by decide +kernel) (by decide +kernel)
theorem fqX6_47 : FQ RX6 47 7 16 true (.array .int) true := ⟨by decide, by decide, RX6, TX6, 34, tyX6, rfl, igX6, by decide, rfl, wd_258, rfl, tyX6_ok, nmX6, rfl, by decide +kernel, rfl⟩
theorem wd_259 : Cond.fieldLink RX6 50 (TX6 17).1 (TX6 17).2.1 (TX6 17).2.2.1 ∈ gw := gw_of (w := Cond.fieldLink RX6 50 (TX6 17).1 (TX6 17).2.1 (TX6 17).2.2.1) (by decide +kernel) (by decide +kernel)
theorem fqX6_50 : FQ RX6 50 7 17 true (.array .int) true := ⟨by decide, by decide, RX6, TX6, 34, tyX6, rfl, igX6, by decide, rfl, wd_259, rfl, tyX6_ok, nmX6, rfl, by decide +kernel, rfl⟩
theorem wd_260 : Cond.fieldLink RX6 53 (TX6 18).1 (TX6 18).2.1 (TX6 18).2.2.1 ∈ gw := gw_of (w := Cond.fieldLink RX6 53 (TX6 18).1 (TX6 18).2.1 (TX6 18).2.2.1) (by decide +kernel) (by decide +kernel)
theorem fqX6_53 : FQ RX6 53 7 18 true (.array .int) true := ⟨by decide, by decide, RX6, TX6, 34, tyX6, rfl, igX6, by decide, rfl, wd_260, rfl, tyX6_ok, nmX6, rfl, by decide +kernel, rfl⟩
theorem wd_261 : Cond.fieldLink RX6 56 (TX6 19).1 (TX6 19).2.1 (TX6 19).2.2.1 ∈ gw := gw_of (w := Cond.fieldLink RX6 56 (TX6 19).1 (TX6 19).2.1 (TX6 19).2.2.1) (by decide +kernel) (by decide +kernel)
theorem fqX6_56 : FQ RX6 56 7 19 true (.array .int) true := ⟨by decide, by decide, RX6, TX6, 34, tyX6, rfl, igX6, by decide, rfl, wd_261, rfl, tyX6_ok, nmX6, rfl, by decide +kernel, rfl⟩
theorem wd_262 : Cond.fieldLink RX6 59 (TX6 20).1 (TX6 20).2.1 (TX6 20).2.2.1 ∈ gw := gw_of (w := Cond.fieldLink RX6 59 (TX6 20).1 (TX6 20).2.1 (TX6 20).2.2.1) (by decide +kernel) (by decide +kernel)
theorem fqX6_59 : FQ RX6 59 7 20 true (.array .int) true := ⟨by decide, by decide, RX6, TX6, 34, tyX6, rfl, igX6, by decide, rfl, wd_262, rfl, tyX6_ok, nmX6, rfl, by decide +kernel, rfl⟩
theorem wd_263 : Cond.fieldLink RX6 62 (TX6 21).1 (TX6 21).2.1 (TX6 21).2.2.1 ∈ gw := gw_of (w := Cond.fieldLink RX6 62 (TX6 21).1 (TX6 21).2.1 (TX6 21).2.2.1) (by decide +kernel) (by decide +kernel)
theorem fqX6_62 : FQ RX6 62 7 21 true (.array .int) true := ⟨by decide, by decide, RX6, TX6, 34, tyX6, rfl, igX6, by decide, rfl, wd_263, rfl, tyX6_ok, nmX6, rfl, by decide +kernel, rfl⟩
theorem wd_264 : Cond.fieldLink RX6 65 (TX6 22).1 (TX6 22).2.1 (TX6 22).2.2.1 ∈ gw := gw_of (w := Cond.fieldLink RX6 65 (TX6 22).1 (TX6 22).2.1 (TX6 22).2.2.1) (by decide +kernel) (by decide +kernel)
theorem fqX6_65 : FQ RX6 65 7 22 true (.array .int) true := ⟨by decide, by decide, RX6, TX6, 34, tyX6, rfl, igX6, by decide, rfl, wd_264, rfl, tyX6_ok, nmX6, rfl, by decide +kernel, rfl⟩
theorem wd_265 : Cond.fieldLink RX6 68 (TX6 23).1 (TX6 23).2.1 (TX6 23).2.2.1 ∈ gw := gw_of (w := Cond.fieldLink RX6 68 (TX6 23).1 (TX6 23).2.1 (TX6 23).2.2.1) (by decide +kernel) (by decide +kernel)
theorem fqX6_68 : FQ RX6 68 7 23 true (.array .int) true := ⟨by decide, by decide, RX6, TX6, 34, tyX6, rfl, igX6, by decide, rfl, wd_265, rfl, tyX6_ok, nmX6, rfl, by decide +kernel, rfl⟩
theorem wd_266 : Cond.fieldLink RX6 71 (TX6 24).1 (TX6 24).2.1 (TX6 24).2.2.1 ∈ gw := gw_of (w := Cond.fieldLink RX6 71 (TX6 24).1 (TX6 24).2.1 (TX6 24).2.2.1) (by decide +kernel) (by decide +kernel)
theorem fqX6_71 : FQ RX6 71 7 24 true (.array .int) true := ⟨by decide, by decide, RX6, TX6, 34, tyX6, rfl, igX6, by decide, rfl, wd_266, rfl, tyX6_ok, nmX6, rfl, by decide +kernel, rfl⟩
theorem wd_267 : Cond.fieldLink RX6 74 (TX6 25).1 (TX6 25).2.1 (TX6 25).2.2.1 ∈ gw := gw_of (w := Cond.fieldLink RX6 74 (TX6 25).1 (TX6 25).2.1 (TX6 25).2.2.1) (by decide +kernel) (by decide +kernel)
theorem fqX6_74 : FQ RX6 74 7 25 true (.array .int) true := ⟨by decide, by decide, RX6, TX6, 34, tyX6, rfl, igX6, by decide, rfl, wd_267, rfl, tyX6_ok, nmX6, rfl, by decide +kernel, rfl⟩
theorem wd_268 : Cond.fieldLink RX6 77 (TX6 26).1 (TX6 26).2.1 (TX6 26).2.2.1 ∈ gw := gw_of (w := Cond.fieldLink RX6 77 (TX6 26).1 (TX6 26).2.1 (TX6 26).2.2.1) (by decide +kernel) (by decide +kernel)
theorem fqX6_77 : FQ RX6 77 7 26 true (.array .int) true := ⟨by decide, by decide, RX6, TX6, 34, tyX6, rfl, igX6, by decide, rfl, wd_268, rfl, tyX6_ok, nmX6, rfl, by decide +kernel, rfl⟩
theorem wd_269 : Cond.fieldLink RX6 80 (TX6 33).1 (TX6 33).2.1 (TX6 33).2.2.1 ∈ gw := gw_of (w := Cond.fieldLink RX6 80 (TX6 33).1 (TX6 33).2.1 (TX6 33).2.2.1) (by decide +kernel) (by decide +kernel)
theorem fqX6_80 : FQ RX6 80 7 33 true (.array .int) true := ⟨by decide, by decide, RX6, TX6, 34, tyX6, rfl, igX6, by decide, rfl, wd_269, rfl, tyX6_ok, nmX6, rfl, by decide +kernel, rfl⟩
theorem wd_270 : Cond.fieldLink RX6 83 (TX6 0).1 (TX6 0).2.1 (TX6 0).2.2.1 ∈ gw := gw_of (w := Cond.fieldLink RX6 83 (TX6 0).1 (TX6 0).2.1 (TX6 0).2.2.1) (by decide +kernel) (by decide +kernel)
theorem fqX6_83 : FQ RX6 83 7 0 false (.int) false := ⟨by decide, by decide, RX6, TX6, 34, tyX6, rfl, igX6, by decide, rfl, wd_270, rfl, tyX6_ok, nmX6, rfl, by decide +kernel, rfl⟩
theorem wd_271 : Cond.fieldLink RX6 88 (TX6 1).1 (TX6 1).2.1 (TX6 1).2.2.1 ∈ gw := gw_of (w := Cond.fieldLink RX6 88 (TX6 1).1 (TX6 1).2.1 (TX6 1).2.2.1) (by decide +kernel) (by decide +kernel)
theorem fqX6_88 : FQ RX6 88 7 1 false (.int) false := ⟨by decide, by decide, RX6, TX6, 34, tyX6, rfl, igX6, by decide, rfl, wd_271, rfl, tyX6_ok, nmX6, rfl, by decide +kernel, rfl⟩
theorem wd_272 : Cond.code yX6_isText cX6_isText 2 (some .boolean) ∈ gw := gw_of (w := Cond.code yX6_isText cX6_isText 2 (some .boolean)) (by decide +kernel) (by decide +kernel)
theorem wd_273 : Cond.methodLink RX6 91 yX6_isText ∈ gw := gw_of (w := Cond.methodLink RX6 91 yX6_isText) (by decide +kernel) (by decide +kernel)
theorem wd_274 : Cond.instanceMethod yX6_isText ∈ gw := gw_of (w := Cond.instanceMethod yX6_isText) (by decide +kernel) (by decide +kernel)
theorem wd_275 : Cond.selects RX6 yX6_isText yX6_isText ∈ gw := gw_of (w := Cond.selects RX6 yX6_isText yX6_isText) (by decide +kernel) (by decide +kernel)
theorem wd_276 : Cond.initialized RX6 ∈ gw := gw_of (w := Cond.initialized RX6) (by decide +kernel) (by decide +kernel)
theorem vqX6_91 : VQ RX6 91 yX6_isText cX6_isText 2 (some .boolean) 7 1 := ⟨⟨wd_273, wd_274, wd_275, wd_276, wd_272⟩, ⟨_, rfl, rfl⟩, by decide, by decide, by decide +kernel, by decide +kernel, by decide +kernel, by decide⟩
theorem wd_277 : Cond.code yX6_isWord cX6_isWord 2 (some .boolean) ∈ gw := gw_of (w := Cond.code yX6_isWord cX6_isWord 2 (some .boolean)) (by decide +kernel) (by decide +kernel)
theorem wd_278 : Cond.methodLink RX6 95 yX6_isWord ∈ gw := gw_of (w := Cond.methodLink RX6 95 yX6_isWord) (by decide +kernel) (by decide +kernel)
theorem wd_279 : Cond.static yX6_isWord ∈ gw := gw_of (w := Cond.static yX6_isWord) (by decide +kernel) (by decide +kernel)
theorem sqX6_95 : SQ RX6 95 yX6_isWord cX6_isWord 2 (some .boolean) 1 := ⟨⟨wd_278, wd_279, wd_276, wd_277⟩, rfl, by decide +kernel, by decide +kernel, by decide +kernel, by decide⟩
theorem wd_280 : Cond.code yX6_add cX6_add 3 (some .int) ∈ gw := gw_of (w := Cond.code yX6_add cX6_add 3 (some .int)) (by decide +kernel) (by decide +kernel)
theorem wd_281 : Cond.methodLink RX6 98 yX6_add ∈ gw := gw_of (w := Cond.methodLink RX6 98 yX6_add) (by decide +kernel) (by decide +kernel)
theorem wd_282 : Cond.instanceMethod yX6_add ∈ gw := gw_of (w := Cond.instanceMethod yX6_add) (by decide +kernel) (by decide +kernel)
theorem wd_283 : Cond.selects RX6 yX6_add yX6_add ∈ gw := gw_of (w := Cond.selects RX6 yX6_add yX6_add) (by decide +kernel) (by decide +kernel)
theorem vqX6_98 : VQ RX6 98 yX6_add cX6_add 3 (some .int) 7 2 := ⟨⟨wd_281, wd_282, wd_283, wd_276, wd_280⟩, ⟨_, rfl, rfl⟩, by decide, by decide, by decide +kernel, by decide +kernel, by decide +kernel, by decide⟩
theorem wd_284 : Cond.fieldLink RX6 102 (TX6 2).1 (TX6 2).2.1 (TX6 2).2.2.1 ∈ gw := gw_of (w := Cond.fieldLink RX6 102 (TX6 2).1 (TX6 2).2.1 (TX6 2).2.2.1) (by decide +kernel) (by decide +kernel)
theorem fqX6_102 : FQ RX6 102 7 2 false (.int) false := ⟨by decide, by decide, RX6, TX6, 34, tyX6, rfl, igX6, by decide, rfl, wd_284, rfl, tyX6_ok, nmX6, rfl, by decide +kernel, rfl⟩
theorem wd_285 : Cond.code yX6_statement cX6_statement 5 (some .int) ∈ gw := gw_of (w := Cond.code yX6_statement cX6_statement 5 (some .int)) (by decide +kernel) (by decide +kernel)
theorem wd_286 : Cond.methodLink RX6 105 yX6_statement ∈ gw := gw_of (w := Cond.methodLink RX6 105 yX6_statement) (by decide +kernel) (by decide +kernel)
theorem wd_287 : Cond.instanceMethod yX6_statement ∈ gw := gw_of (w := Cond.instanceMethod yX6_statement) (by decide +kernel) (by decide +kernel)
theorem wd_288 : Cond.selects RX6 yX6_statement yX6_statement ∈ gw := gw_of (w := Cond.selects RX6 yX6_statement yX6_statement) (by decide +kernel) (by decide +kernel)
theorem vqX6_105 : VQ RX6 105 yX6_statement cX6_statement 5 (some .int) 7 4 := ⟨⟨wd_286, wd_287, wd_288, wd_276, wd_285⟩, ⟨_, rfl, rfl⟩, by decide, by decide, by decide +kernel, by decide +kernel, by decide +kernel, by decide⟩
theorem wd_289 : Cond.fieldLink RX6 109 (TX6 3).1 (TX6 3).2.1 (TX6 3).2.2.1 ∈ gw := gw_of (w := Cond.fieldLink RX6 109 (TX6 3).1 (TX6 3).2.1 (TX6 3).2.2.1) (by decide +kernel) (by decide +kernel)
theorem fqX6_109 : FQ RX6 109 7 3 false (.int) false := ⟨by decide, by decide, RX6, TX6, 34, tyX6, rfl, igX6, by decide, rfl, wd_289, rfl, tyX6_ok, nmX6, rfl, by decide +kernel, rfl⟩
theorem wd_290 : Cond.fieldLink RX6 112 (TX6 28).1 (TX6 28).2.1 (TX6 28).2.2.1 ∈ gw := gw_of (w := Cond.fieldLink RX6 112 (TX6 28).1 (TX6 28).2.1 (TX6 28).2.2.1) (by decide +kernel) (by decide +kernel)
theorem fqX6_112 : FQ RX6 112 7 28 false (.int) false := ⟨by decide, by decide, RX6, TX6, 34, tyX6, rfl, igX6, by decide, rfl, wd_290, rfl, tyX6_ok, nmX6, rfl, by decide +kernel, rfl⟩
theorem wd_291 : Cond.code yX6_put cX6_put 9 (some .boolean) ∈ gw := gw_of (w := Cond.code yX6_put cX6_put 9 (some .boolean)) (by decide +kernel) (by decide +kernel)
theorem wd_292 : Cond.methodLink RX6 115 yX6_put ∈ gw := gw_of (w := Cond.methodLink RX6 115 yX6_put) (by decide +kernel) (by decide +kernel)
theorem wd_293 : Cond.instanceMethod yX6_put ∈ gw := gw_of (w := Cond.instanceMethod yX6_put) (by decide +kernel) (by decide +kernel)
theorem wd_294 : Cond.selects RX6 yX6_put yX6_put ∈ gw := gw_of (w := Cond.selects RX6 yX6_put yX6_put) (by decide +kernel) (by decide +kernel)
theorem vqX6_115 : VQ RX6 115 yX6_put cX6_put 9 (some .boolean) 7 7 := ⟨⟨wd_292, wd_293, wd_294, wd_276, wd_291⟩, ⟨_, rfl, rfl⟩, by decide, by decide, by decide +kernel, by decide +kernel, by decide +kernel, by decide⟩
theorem wd_295 : Cond.code yX6_letters cX6_letters 3 (some .int) ∈ gw := gw_of (w := Cond.code yX6_letters cX6_letters 3 (some .int)) (by decide +kernel) (by decide +kernel)
theorem wd_296 : Cond.methodLink RX6 119 yX6_letters ∈ gw := gw_of (w := Cond.methodLink RX6 119 yX6_letters) (by decide +kernel) (by decide +kernel)
theorem wd_297 : Cond.static yX6_letters ∈ gw := gw_of (w := Cond.static yX6_letters) (by decide +kernel) (by decide +kernel)
theorem sqX6_119 : SQ RX6 119 yX6_letters cX6_letters 3 (some .int) 1 := ⟨⟨wd_296, wd_297, wd_276, wd_295⟩, rfl, by decide +kernel, by decide +kernel, by decide +kernel, by decide⟩
theorem wd_298 : Cond.code yX6_power cX6_power 3 (some .int) ∈ gw := gw_of (w := Cond.code yX6_power cX6_power 3 (some .int)) (by decide +kernel) (by decide +kernel)
theorem wd_299 : Cond.methodLink RX6 123 yX6_power ∈ gw := gw_of (w := Cond.methodLink RX6 123 yX6_power) (by decide +kernel) (by decide +kernel)
theorem wd_300 : Cond.static yX6_power ∈ gw := gw_of (w := Cond.static yX6_power) (by decide +kernel) (by decide +kernel)
theorem sqX6_123 : SQ RX6 123 yX6_power cX6_power 3 (some .int) 1 := ⟨⟨wd_299, wd_300, wd_276, wd_298⟩, rfl, by decide +kernel, by decide +kernel, by decide +kernel, by decide⟩
theorem wd_301 : Cond.code yX6_behind cX6_behind 6 (some .int) ∈ gw := gw_of (w := Cond.code yX6_behind cX6_behind 6 (some .int)) (by decide +kernel) (by decide +kernel)
theorem wd_302 : Cond.methodLink RX6 126 yX6_behind ∈ gw := gw_of (w := Cond.methodLink RX6 126 yX6_behind) (by decide +kernel) (by decide +kernel)
theorem wd_303 : Cond.instanceMethod yX6_behind ∈ gw := gw_of (w := Cond.instanceMethod yX6_behind) (by decide +kernel) (by decide +kernel)
theorem wd_304 : Cond.selects RX6 yX6_behind yX6_behind ∈ gw := gw_of (w := Cond.selects RX6 yX6_behind yX6_behind) (by decide +kernel) (by decide +kernel)
theorem vqX6_126 : VQ RX6 126 yX6_behind cX6_behind 6 (some .int) 7 3 := ⟨⟨wd_302, wd_303, wd_304, wd_276, wd_301⟩, ⟨_, rfl, rfl⟩, by decide, by decide, by decide +kernel, by decide +kernel, by decide +kernel, by decide⟩
theorem wd_305 : Cond.fieldLink RX6 130 (TX6 30).1 (TX6 30).2.1 (TX6 30).2.2.1 ∈ gw := gw_of (w := Cond.fieldLink RX6 130 (TX6 30).1 (TX6 30).2.1 (TX6 30).2.2.1) (by decide +kernel) (by decide +kernel)
theorem fqX6_130 : FQ RX6 130 7 30 false (.int) false := ⟨by decide, by decide, RX6, TX6, 34, tyX6, rfl, igX6, by decide, rfl, wd_305, rfl, tyX6_ok, nmX6, rfl, by decide +kernel, rfl⟩
theorem wd_306 : Cond.code yX6_hasPart cX6_hasPart 5 (some .boolean) ∈ gw := gw_of (w := Cond.code yX6_hasPart cX6_hasPart 5 (some .boolean)) (by decide +kernel) (by decide +kernel)
theorem wd_307 : Cond.methodLink RX6 133 yX6_hasPart ∈ gw := gw_of (w := Cond.methodLink RX6 133 yX6_hasPart) (by decide +kernel) (by decide +kernel)
theorem wd_308 : Cond.instanceMethod yX6_hasPart ∈ gw := gw_of (w := Cond.instanceMethod yX6_hasPart) (by decide +kernel) (by decide +kernel)
theorem wd_309 : Cond.selects RX6 yX6_hasPart yX6_hasPart ∈ gw := gw_of (w := Cond.selects RX6 yX6_hasPart yX6_hasPart) (by decide +kernel) (by decide +kernel)
theorem vqX6_133 : VQ RX6 133 yX6_hasPart cX6_hasPart 5 (some .boolean) 7 2 := ⟨⟨wd_307, wd_308, wd_309, wd_276, wd_306⟩, ⟨_, rfl, rfl⟩, by decide, by decide, by decide +kernel, by decide +kernel, by decide +kernel, by decide⟩
theorem wd_310 : Cond.code yX6_changed cX6_changed 6 (some .int) ∈ gw := gw_of (w := Cond.code yX6_changed cX6_changed 6 (some .int)) (by decide +kernel) (by decide +kernel)
theorem wd_311 : Cond.methodLink RX6 137 yX6_changed ∈ gw := gw_of (w := Cond.methodLink RX6 137 yX6_changed) (by decide +kernel) (by decide +kernel)
theorem wd_312 : Cond.instanceMethod yX6_changed ∈ gw := gw_of (w := Cond.instanceMethod yX6_changed) (by decide +kernel) (by decide +kernel)
theorem wd_313 : Cond.selects RX6 yX6_changed yX6_changed ∈ gw := gw_of (w := Cond.selects RX6 yX6_changed yX6_changed) (by decide +kernel) (by decide +kernel)
theorem vqX6_137 : VQ RX6 137 yX6_changed cX6_changed 6 (some .int) 7 2 := ⟨⟨wd_311, wd_312, wd_313, wd_276, wd_310⟩, ⟨_, rfl, rfl⟩, by decide, by decide, by decide +kernel, by decide +kernel, by decide +kernel, by decide⟩
theorem wd_314 : Cond.code yX6_again cX6_again 3 (some .boolean) ∈ gw := gw_of (w := Cond.code yX6_again cX6_again 3 (some .boolean)) (by decide +kernel) (by decide +kernel)
theorem wd_315 : Cond.methodLink RX6 140 yX6_again ∈ gw := gw_of (w := Cond.methodLink RX6 140 yX6_again) (by decide +kernel) (by decide +kernel)
theorem wd_316 : Cond.instanceMethod yX6_again ∈ gw := gw_of (w := Cond.instanceMethod yX6_again) (by decide +kernel) (by decide +kernel)
theorem wd_317 : Cond.selects RX6 yX6_again yX6_again ∈ gw := gw_of (w := Cond.selects RX6 yX6_again yX6_again) (by decide +kernel) (by decide +kernel)
theorem vqX6_140 : VQ RX6 140 yX6_again cX6_again 3 (some .boolean) 7 2 := ⟨⟨wd_315, wd_316, wd_317, wd_276, wd_314⟩, ⟨_, rfl, rfl⟩, by decide, by decide, by decide +kernel, by decide +kernel, by decide +kernel, by decide⟩
theorem wd_318 : Cond.code yX6_step cX6_step 9 (some .int) ∈ gw := gw_of (w := Cond.code yX6_step cX6_step 9 (some .int)) (by decide +kernel) (by decide +kernel)
theorem wd_319 : Cond.methodLink RX6 143 yX6_step ∈ gw := gw_of (w := Cond.methodLink RX6 143 yX6_step) (by decide +kernel) (by decide +kernel)
theorem wd_320 : Cond.instanceMethod yX6_step ∈ gw := gw_of (w := Cond.instanceMethod yX6_step) (by decide +kernel) (by decide +kernel)
theorem wd_321 : Cond.selects RX6 yX6_step yX6_step ∈ gw := gw_of (w := Cond.selects RX6 yX6_step yX6_step) (by decide +kernel) (by decide +kernel)
theorem vqX6_143 : VQ RX6 143 yX6_step cX6_step 9 (some .int) 7 4 := ⟨⟨wd_319, wd_320, wd_321, wd_276, wd_318⟩, ⟨_, rfl, rfl⟩, by decide, by decide, by decide +kernel, by decide +kernel, by decide +kernel, by decide⟩
theorem wd_322 : Cond.fieldLink RX6 147 (TX6 27).1 (TX6 27).2.1 (TX6 27).2.2.1 ∈ gw := gw_of (w := Cond.fieldLink RX6 147 (TX6 27).1 (TX6 27).2.1 (TX6 27).2.2.1) (by decide +kernel) (by decide +kernel)
theorem fqX6_147 : FQ RX6 147 7 27 false (.int) false := ⟨by decide, by decide, RX6, TX6, 34, tyX6, rfl, igX6, by decide, rfl, wd_322, rfl, tyX6_ok, nmX6, rfl, by decide +kernel, rfl⟩
theorem wd_323 : Cond.fieldLink RX6 150 (TX6 29).1 (TX6 29).2.1 (TX6 29).2.2.1 ∈ gw := gw_of (w := Cond.fieldLink RX6 150 (TX6 29).1 (TX6 29).2.1 (TX6 29).2.2.1) (by decide +kernel) (by decide +kernel)
theorem fqX6_150 : FQ RX6 150 7 29 false (.int) false := ⟨by decide, by decide, RX6, TX6, 34, tyX6, rfl, igX6, by decide, rfl, wd_323, rfl, tyX6_ok, nmX6, rfl, by decide +kernel, rfl⟩
theorem wd_324 : Cond.code yX6_textNamed cX6_textNamed 3 (some .int) ∈ gw := gw_of (w := Cond.code yX6_textNamed cX6_textNamed 3 (some .int)) (by decide +kernel) (by decide +kernel)
theorem wd_325 : Cond.methodLink RX6 153 yX6_textNamed ∈ gw := gw_of (w := Cond.methodLink RX6 153 yX6_textNamed) (by decide +kernel) (by decide +kernel)
theorem wd_326 : Cond.instanceMethod yX6_textNamed ∈ gw := gw_of (w := Cond.instanceMethod yX6_textNamed) (by decide +kernel) (by decide +kernel)
theorem wd_327 : Cond.selects RX6 yX6_textNamed yX6_textNamed ∈ gw := gw_of (w := Cond.selects RX6 yX6_textNamed yX6_textNamed) (by decide +kernel) (by decide +kernel)
theorem vqX6_153 : VQ RX6 153 yX6_textNamed cX6_textNamed 3 (some .int) 7 1 := ⟨⟨wd_325, wd_326, wd_327, wd_276, wd_324⟩, ⟨_, rfl, rfl⟩, by decide, by decide, by decide +kernel, by decide +kernel, by decide +kernel, by decide⟩
theorem wd_328 : Cond.code yX6_begin cX6_begin 3 none ∈ gw := gw_of (w := Cond.code yX6_begin cX6_begin 3 none) (by decide +kernel) (by decide +kernel)
theorem wd_329 : Cond.methodLink RX6 156 yX6_begin ∈ gw := gw_of (w := Cond.methodLink RX6 156 yX6_begin) (by decide +kernel) (by decide +kernel)
theorem wd_330 : Cond.instanceMethod yX6_begin ∈ gw := gw_of (w := Cond.instanceMethod yX6_begin) (by decide +kernel) (by decide +kernel)
theorem wd_331 : Cond.selects RX6 yX6_begin yX6_begin ∈ gw := gw_of (w := Cond.selects RX6 yX6_begin yX6_begin) (by decide +kernel) (by decide +kernel)
theorem vqX6_156 : VQ RX6 156 yX6_begin cX6_begin 3 none 7 2 := ⟨⟨wd_329, wd_330, wd_331, wd_276, wd_328⟩, ⟨_, rfl, rfl⟩, by decide, by decide, by decide +kernel, by decide +kernel, by decide +kernel, by decide⟩
theorem wd_332 : Cond.fieldLink RX6 160 (TX6 31).1 (TX6 31).2.1 (TX6 31).2.2.1 ∈ gw := gw_of (w := Cond.fieldLink RX6 160 (TX6 31).1 (TX6 31).2.1 (TX6 31).2.2.1) (by decide +kernel) (by decide +kernel)
theorem fqX6_160 : FQ RX6 160 7 31 false (.int) false := ⟨by decide, by decide, RX6, TX6, 34, tyX6, rfl, igX6, by decide, rfl, wd_332, rfl, tyX6_ok, nmX6, rfl, by decide +kernel, rfl⟩
theorem wd_333 : Cond.code yX6_match cX6_match 8 none ∈ gw := gw_of (w := Cond.code yX6_match cX6_match 8 none) (by decide +kernel) (by decide +kernel)
theorem wd_334 : Cond.methodLink RX6 163 yX6_match ∈ gw := gw_of (w := Cond.methodLink RX6 163 yX6_match) (by decide +kernel) (by decide +kernel)
theorem wd_335 : Cond.instanceMethod yX6_match ∈ gw := gw_of (w := Cond.instanceMethod yX6_match) (by decide +kernel) (by decide +kernel)
theorem wd_336 : Cond.selects RX6 yX6_match yX6_match ∈ gw := gw_of (w := Cond.selects RX6 yX6_match yX6_match) (by decide +kernel) (by decide +kernel)
theorem vqX6_163 : VQ RX6 163 yX6_match cX6_match 8 none 7 2 := ⟨⟨wd_334, wd_335, wd_336, wd_276, wd_333⟩, ⟨_, rfl, rfl⟩, by decide, by decide, by decide +kernel, by decide +kernel, by decide +kernel, by decide⟩
theorem wd_337 : Cond.fieldLink RX6 166 (TX6 32).1 (TX6 32).2.1 (TX6 32).2.2.1 ∈ gw := gw_of (w := Cond.fieldLink RX6 166 (TX6 32).1 (TX6 32).2.1 (TX6 32).2.2.1) (by decide +kernel) (by decide +kernel)
theorem fqX6_166 : FQ RX6 166 7 32 false (.int) false := ⟨by decide, by decide, RX6, TX6, 34, tyX6, rfl, igX6, by decide, rfl, wd_337, rfl, tyX6_ok, nmX6, rfl, by decide +kernel, rfl⟩
theorem wd_338 : Cond.code yX6_end cX6_end 5 none ∈ gw := gw_of (w := Cond.code yX6_end cX6_end 5 none) (by decide +kernel) (by decide +kernel)
theorem wd_339 : Cond.methodLink RX6 169 yX6_end ∈ gw := gw_of (w := Cond.methodLink RX6 169 yX6_end) (by decide +kernel) (by decide +kernel)
theorem wd_340 : Cond.instanceMethod yX6_end ∈ gw := gw_of (w := Cond.instanceMethod yX6_end) (by decide +kernel) (by decide +kernel)
theorem wd_341 : Cond.selects RX6 yX6_end yX6_end ∈ gw := gw_of (w := Cond.selects RX6 yX6_end yX6_end) (by decide +kernel) (by decide +kernel)
theorem vqX6_169 : VQ RX6 169 yX6_end cX6_end 5 none 7 0 := ⟨⟨wd_339, wd_340, wd_341, wd_276, wd_338⟩, ⟨_, rfl, rfl⟩, by decide, by decide, by decide +kernel, by decide +kernel, by decide +kernel, by decide⟩
theorem wd_342 : Cond.code yX6_copied cX6_copied 5 none ∈ gw := gw_of (w := Cond.code yX6_copied cX6_copied 5 none) (by decide +kernel) (by decide +kernel)
theorem wd_343 : Cond.methodLink RX6 172 yX6_copied ∈ gw := gw_of (w := Cond.methodLink RX6 172 yX6_copied) (by decide +kernel) (by decide +kernel)
theorem wd_344 : Cond.instanceMethod yX6_copied ∈ gw := gw_of (w := Cond.instanceMethod yX6_copied) (by decide +kernel) (by decide +kernel)
theorem wd_345 : Cond.selects RX6 yX6_copied yX6_copied ∈ gw := gw_of (w := Cond.selects RX6 yX6_copied yX6_copied) (by decide +kernel) (by decide +kernel)
theorem vqX6_172 : VQ RX6 172 yX6_copied cX6_copied 5 none 7 1 := ⟨⟨wd_343, wd_344, wd_345, wd_276, wd_342⟩, ⟨_, rfl, rfl⟩, by decide, by decide, by decide +kernel, by decide +kernel, by decide +kernel, by decide⟩
theorem wd_346 : Cond.code yX5_at cX5_at 2 (some .int) ∈ gw := gw_of (w := Cond.code yX5_at cX5_at 2 (some .int)) (by decide +kernel) (by decide +kernel)
theorem wd_347 : Cond.methodLink RL 7 yX5_at ∈ gw := gw_of (w := Cond.methodLink RL 7 yX5_at) (by decide +kernel) (by decide +kernel)
theorem wd_348 : Cond.instanceMethod yX5_at ∈ gw := gw_of (w := Cond.instanceMethod yX5_at) (by decide +kernel) (by decide +kernel)
theorem wd_349 : Cond.selects RX5 yX5_at yX5_at ∈ gw := gw_of (w := Cond.selects RX5 yX5_at yX5_at) (by decide +kernel) (by decide +kernel)
theorem vqL_7 : VQ RL 7 yX5_at cX5_at 2 (some .int) 6 1 := ⟨⟨wd_347, wd_348, wd_349, wd_84, wd_346⟩, ⟨_, rfl, rfl⟩, by decide, by decide, by decide +kernel, by decide +kernel, by decide +kernel, by decide⟩
theorem wd_350 : Cond.classLink RL 8 RX5 ∈ gw := gw_of (w := Cond.classLink RL 8 RX5) (by decide +kernel) (by decide +kernel)
theorem wd_351 : Cond.instantiable RX5 13 ∈ gw := gw_of (w := Cond.instantiable RX5 13) (by decide +kernel) (by decide +kernel)
theorem nqL_8 : NQ RL 8 6 13 := ⟨by decide, by decide, RX5, TX5, tyX5, rfl, igX5, rfl, tyX5_ok, wd_350, wd_351, wd_84, by decide +kernel⟩
theorem wd_352 : Cond.code yX5_init cX5_init 1 none ∈ gw := gw_of (w := Cond.code yX5_init cX5_init 1 none) (by decide +kernel) (by decide +kernel)
theorem wd_353 : Cond.methodLink RL 15 yX5_init ∈ gw := gw_of (w := Cond.methodLink RL 15 yX5_init) (by decide +kernel) (by decide +kernel)
theorem wd_354 : Cond.instanceMethod yX5_init ∈ gw := gw_of (w := Cond.instanceMethod yX5_init) (by decide +kernel) (by decide +kernel)
theorem iqL_15 : IQ RL 15 yX5_init cX5_init 1 0 := ⟨⟨wd_353, wd_354, wd_84, wd_352⟩, rfl, by decide +kernel, by decide +kernel, by decide +kernel, by decide⟩
theorem wd_355 : Cond.classLink RL 16 RX6 ∈ gw := gw_of (w := Cond.classLink RL 16 RX6) (by decide +kernel) (by decide +kernel)
theorem wd_356 : Cond.instantiable RX6 34 ∈ gw := gw_of (w := Cond.instantiable RX6 34) (by decide +kernel) (by decide +kernel)
theorem nqL_16 : NQ RL 16 7 34 := ⟨by decide, by decide, RX6, TX6, tyX6, rfl, igX6, rfl, tyX6_ok, wd_355, wd_356, wd_276, by decide +kernel⟩
theorem wd_357 : Cond.code yX6_init cX6_init 1 none ∈ gw := gw_of (w := Cond.code yX6_init cX6_init 1 none) (by decide +kernel) (by decide +kernel)
theorem wd_358 : Cond.methodLink RL 18 yX6_init ∈ gw := gw_of (w := Cond.methodLink RL 18 yX6_init) (by decide +kernel) (by decide +kernel)
theorem wd_359 : Cond.instanceMethod yX6_init ∈ gw := gw_of (w := Cond.instanceMethod yX6_init) (by decide +kernel) (by decide +kernel)
theorem iqL_18 : IQ RL 18 yX6_init cX6_init 1 0 := ⟨⟨wd_358, wd_359, wd_276, wd_357⟩, rfl, by decide +kernel, by decide +kernel, by decide +kernel, by decide⟩
theorem wd_360 : Cond.code yX5_library cX5_library 3 (some .int) ∈ gw := gw_of (w := Cond.code yX5_library cX5_library 3 (some .int)) (by decide +kernel) (by decide +kernel)
theorem wd_361 : Cond.methodLink RL 19 yX5_library ∈ gw := gw_of (w := Cond.methodLink RL 19 yX5_library) (by decide +kernel) (by decide +kernel)
theorem wd_362 : Cond.instanceMethod yX5_library ∈ gw := gw_of (w := Cond.instanceMethod yX5_library) (by decide +kernel) (by decide +kernel)
theorem wd_363 : Cond.selects RX5 yX5_library yX5_library ∈ gw := gw_of (w := Cond.selects RX5 yX5_library yX5_library) (by decide +kernel) (by decide +kernel)
theorem vqL_19 : VQ RL 19 yX5_library cX5_library 3 (some .int) 6 1 := ⟨⟨wd_361, wd_362, wd_363, wd_84, wd_360⟩, ⟨_, rfl, rfl⟩, by decide, by decide, by decide +kernel, by decide +kernel, by decide +kernel, by decide⟩
theorem wd_364 : Cond.code yX6_library cX6_library 2 (some .int) ∈ gw := gw_of (w := Cond.code yX6_library cX6_library 2 (some .int)) (by decide +kernel) (by decide +kernel)
theorem wd_365 : Cond.methodLink RL 22 yX6_library ∈ gw := gw_of (w := Cond.methodLink RL 22 yX6_library) (by decide +kernel) (by decide +kernel)
theorem wd_366 : Cond.instanceMethod yX6_library ∈ gw := gw_of (w := Cond.instanceMethod yX6_library) (by decide +kernel) (by decide +kernel)
theorem wd_367 : Cond.selects RX6 yX6_library yX6_library ∈ gw := gw_of (w := Cond.selects RX6 yX6_library yX6_library) (by decide +kernel) (by decide +kernel)
theorem vqL_22 : VQ RL 22 yX6_library cX6_library 2 (some .int) 7 1 := ⟨⟨wd_365, wd_366, wd_367, wd_276, wd_364⟩, ⟨_, rfl, rfl⟩, by decide, by decide, by decide +kernel, by decide +kernel, by decide +kernel, by decide⟩
theorem wd_368 : Cond.code yX5_word cX5_word 4 (some .int) ∈ gw := gw_of (w := Cond.code yX5_word cX5_word 4 (some .int)) (by decide +kernel) (by decide +kernel)
theorem wd_369 : Cond.methodLink RL 23 yX5_word ∈ gw := gw_of (w := Cond.methodLink RL 23 yX5_word) (by decide +kernel) (by decide +kernel)
theorem wd_370 : Cond.instanceMethod yX5_word ∈ gw := gw_of (w := Cond.instanceMethod yX5_word) (by decide +kernel) (by decide +kernel)
theorem wd_371 : Cond.selects RX5 yX5_word yX5_word ∈ gw := gw_of (w := Cond.selects RX5 yX5_word yX5_word) (by decide +kernel) (by decide +kernel)
theorem vqL_23 : VQ RL 23 yX5_word cX5_word 4 (some .int) 6 2 := ⟨⟨wd_369, wd_370, wd_371, wd_84, wd_368⟩, ⟨_, rfl, rfl⟩, by decide, by decide, by decide +kernel, by decide +kernel, by decide +kernel, by decide⟩
theorem wd_372 : Cond.code yX6_word cX6_word 3 (some .int) ∈ gw := gw_of (w := Cond.code yX6_word cX6_word 3 (some .int)) (by decide +kernel) (by decide +kernel)
theorem wd_373 : Cond.methodLink RL 27 yX6_word ∈ gw := gw_of (w := Cond.methodLink RL 27 yX6_word) (by decide +kernel) (by decide +kernel)
theorem wd_374 : Cond.instanceMethod yX6_word ∈ gw := gw_of (w := Cond.instanceMethod yX6_word) (by decide +kernel) (by decide +kernel)
theorem wd_375 : Cond.selects RX6 yX6_word yX6_word ∈ gw := gw_of (w := Cond.selects RX6 yX6_word yX6_word) (by decide +kernel) (by decide +kernel)
theorem vqL_27 : VQ RL 27 yX6_word cX6_word 3 (some .int) 7 2 := ⟨⟨wd_373, wd_374, wd_375, wd_276, wd_372⟩, ⟨_, rfl, rfl⟩, by decide, by decide, by decide +kernel, by decide +kernel, by decide +kernel, by decide⟩
theorem wd_376 : Cond.code yX5_copy cX5_copy 5 (some .int) ∈ gw := gw_of (w := Cond.code yX5_copy cX5_copy 5 (some .int)) (by decide +kernel) (by decide +kernel)
theorem wd_377 : Cond.methodLink RL 28 yX5_copy ∈ gw := gw_of (w := Cond.methodLink RL 28 yX5_copy) (by decide +kernel) (by decide +kernel)
theorem wd_378 : Cond.instanceMethod yX5_copy ∈ gw := gw_of (w := Cond.instanceMethod yX5_copy) (by decide +kernel) (by decide +kernel)
theorem wd_379 : Cond.selects RX5 yX5_copy yX5_copy ∈ gw := gw_of (w := Cond.selects RX5 yX5_copy yX5_copy) (by decide +kernel) (by decide +kernel)
theorem vqL_28 : VQ RL 28 yX5_copy cX5_copy 5 (some .int) 6 3 := ⟨⟨wd_377, wd_378, wd_379, wd_84, wd_376⟩, ⟨_, rfl, rfl⟩, by decide, by decide, by decide +kernel, by decide +kernel, by decide +kernel, by decide⟩
theorem wd_380 : Cond.code yX6_copy cX6_copy 4 (some .int) ∈ gw := gw_of (w := Cond.code yX6_copy cX6_copy 4 (some .int)) (by decide +kernel) (by decide +kernel)
theorem wd_381 : Cond.methodLink RL 32 yX6_copy ∈ gw := gw_of (w := Cond.methodLink RL 32 yX6_copy) (by decide +kernel) (by decide +kernel)
theorem wd_382 : Cond.instanceMethod yX6_copy ∈ gw := gw_of (w := Cond.instanceMethod yX6_copy) (by decide +kernel) (by decide +kernel)
theorem wd_383 : Cond.selects RX6 yX6_copy yX6_copy ∈ gw := gw_of (w := Cond.selects RX6 yX6_copy yX6_copy) (by decide +kernel) (by decide +kernel)
theorem vqL_32 : VQ RL 32 yX6_copy cX6_copy 4 (some .int) 7 3 := ⟨⟨wd_381, wd_382, wd_383, wd_276, wd_380⟩, ⟨_, rfl, rfl⟩, by decide, by decide, by decide +kernel, by decide +kernel, by decide +kernel, by decide⟩
theorem wd_384 : Cond.code yX5_replace cX5_replace 3 (some .int) ∈ gw := gw_of (w := Cond.code yX5_replace cX5_replace 3 (some .int)) (by decide +kernel) (by decide +kernel)
theorem wd_385 : Cond.methodLink RL 33 yX5_replace ∈ gw := gw_of (w := Cond.methodLink RL 33 yX5_replace) (by decide +kernel) (by decide +kernel)
theorem wd_386 : Cond.instanceMethod yX5_replace ∈ gw := gw_of (w := Cond.instanceMethod yX5_replace) (by decide +kernel) (by decide +kernel)
theorem wd_387 : Cond.selects RX5 yX5_replace yX5_replace ∈ gw := gw_of (w := Cond.selects RX5 yX5_replace yX5_replace) (by decide +kernel) (by decide +kernel)
theorem vqL_33 : VQ RL 33 yX5_replace cX5_replace 3 (some .int) 6 1 := ⟨⟨wd_385, wd_386, wd_387, wd_84, wd_384⟩, ⟨_, rfl, rfl⟩, by decide, by decide, by decide +kernel, by decide +kernel, by decide +kernel, by decide⟩
theorem wd_388 : Cond.code yX6_replace cX6_replace 2 (some .int) ∈ gw := gw_of (w := Cond.code yX6_replace cX6_replace 2 (some .int)) (by decide +kernel) (by decide +kernel)
theorem wd_389 : Cond.methodLink RL 36 yX6_replace ∈ gw := gw_of (w := Cond.methodLink RL 36 yX6_replace) (by decide +kernel) (by decide +kernel)
theorem wd_390 : Cond.instanceMethod yX6_replace ∈ gw := gw_of (w := Cond.instanceMethod yX6_replace) (by decide +kernel) (by decide +kernel)
theorem wd_391 : Cond.selects RX6 yX6_replace yX6_replace ∈ gw := gw_of (w := Cond.selects RX6 yX6_replace yX6_replace) (by decide +kernel) (by decide +kernel)
theorem vqL_36 : VQ RL 36 yX6_replace cX6_replace 2 (some .int) 7 1 := ⟨⟨wd_389, wd_390, wd_391, wd_276, wd_388⟩, ⟨_, rfl, rfl⟩, by decide, by decide, by decide +kernel, by decide +kernel, by decide +kernel, by decide⟩
theorem wd_392 : Cond.code yX5_off cX5_off 3 (some .int) ∈ gw := gw_of (w := Cond.code yX5_off cX5_off 3 (some .int)) (by decide +kernel) (by decide +kernel)
theorem wd_393 : Cond.methodLink RL 37 yX5_off ∈ gw := gw_of (w := Cond.methodLink RL 37 yX5_off) (by decide +kernel) (by decide +kernel)
theorem wd_394 : Cond.instanceMethod yX5_off ∈ gw := gw_of (w := Cond.instanceMethod yX5_off) (by decide +kernel) (by decide +kernel)
theorem wd_395 : Cond.selects RX5 yX5_off yX5_off ∈ gw := gw_of (w := Cond.selects RX5 yX5_off yX5_off) (by decide +kernel) (by decide +kernel)
theorem vqL_37 : VQ RL 37 yX5_off cX5_off 3 (some .int) 6 1 := ⟨⟨wd_393, wd_394, wd_395, wd_84, wd_392⟩, ⟨_, rfl, rfl⟩, by decide, by decide, by decide +kernel, by decide +kernel, by decide +kernel, by decide⟩
theorem wd_396 : Cond.code yX6_off cX6_off 2 (some .int) ∈ gw := gw_of (w := Cond.code yX6_off cX6_off 2 (some .int)) (by decide +kernel) (by decide +kernel)
theorem wd_397 : Cond.methodLink RL 40 yX6_off ∈ gw := gw_of (w := Cond.methodLink RL 40 yX6_off) (by decide +kernel) (by decide +kernel)
theorem wd_398 : Cond.instanceMethod yX6_off ∈ gw := gw_of (w := Cond.instanceMethod yX6_off) (by decide +kernel) (by decide +kernel)
theorem wd_399 : Cond.selects RX6 yX6_off yX6_off ∈ gw := gw_of (w := Cond.selects RX6 yX6_off yX6_off) (by decide +kernel) (by decide +kernel)
theorem vqL_40 : VQ RL 40 yX6_off cX6_off 2 (some .int) 7 1 := ⟨⟨wd_397, wd_398, wd_399, wd_276, wd_396⟩, ⟨_, rfl, rfl⟩, by decide, by decide, by decide +kernel, by decide +kernel, by decide +kernel, by decide⟩
theorem wd_400 : Cond.code yX5_phrase cX5_phrase 6 (some .int) ∈ gw := gw_of (w := Cond.code yX5_phrase cX5_phrase 6 (some .int)) (by decide +kernel) (by decide +kernel)
theorem wd_401 : Cond.methodLink RL 41 yX5_phrase ∈ gw := gw_of (w := Cond.methodLink RL 41 yX5_phrase) (by decide +kernel) (by decide +kernel)
theorem wd_402 : Cond.instanceMethod yX5_phrase ∈ gw := gw_of (w := Cond.instanceMethod yX5_phrase) (by decide +kernel) (by decide +kernel)
theorem wd_403 : Cond.selects RX5 yX5_phrase yX5_phrase ∈ gw := gw_of (w := Cond.selects RX5 yX5_phrase yX5_phrase) (by decide +kernel) (by decide +kernel)
theorem vqL_41 : VQ RL 41 yX5_phrase cX5_phrase 6 (some .int) 6 3 := ⟨⟨wd_401, wd_402, wd_403, wd_84, wd_400⟩, ⟨_, rfl, rfl⟩, by decide, by decide, by decide +kernel, by decide +kernel, by decide +kernel, by decide⟩
theorem wd_404 : Cond.code yX6_phrase cX6_phrase 4 (some .int) ∈ gw := gw_of (w := Cond.code yX6_phrase cX6_phrase 4 (some .int)) (by decide +kernel) (by decide +kernel)
theorem wd_405 : Cond.methodLink RL 45 yX6_phrase ∈ gw := gw_of (w := Cond.methodLink RL 45 yX6_phrase) (by decide +kernel) (by decide +kernel)
theorem wd_406 : Cond.instanceMethod yX6_phrase ∈ gw := gw_of (w := Cond.instanceMethod yX6_phrase) (by decide +kernel) (by decide +kernel)
theorem wd_407 : Cond.selects RX6 yX6_phrase yX6_phrase ∈ gw := gw_of (w := Cond.selects RX6 yX6_phrase yX6_phrase) (by decide +kernel) (by decide +kernel)
theorem vqL_45 : VQ RL 45 yX6_phrase cX6_phrase 4 (some .int) 7 3 := ⟨⟨wd_405, wd_406, wd_407, wd_276, wd_404⟩, ⟨_, rfl, rfl⟩, by decide, by decide, by decide +kernel, by decide +kernel, by decide +kernel, by decide⟩
theorem wd_408 : Cond.code yX5_from cX5_from 4 (some .int) ∈ gw := gw_of (w := Cond.code yX5_from cX5_from 4 (some .int)) (by decide +kernel) (by decide +kernel)
theorem wd_409 : Cond.methodLink RL 46 yX5_from ∈ gw := gw_of (w := Cond.methodLink RL 46 yX5_from) (by decide +kernel) (by decide +kernel)
theorem wd_410 : Cond.instanceMethod yX5_from ∈ gw := gw_of (w := Cond.instanceMethod yX5_from) (by decide +kernel) (by decide +kernel)
theorem wd_411 : Cond.selects RX5 yX5_from yX5_from ∈ gw := gw_of (w := Cond.selects RX5 yX5_from yX5_from) (by decide +kernel) (by decide +kernel)
theorem vqL_46 : VQ RL 46 yX5_from cX5_from 4 (some .int) 6 2 := ⟨⟨wd_409, wd_410, wd_411, wd_84, wd_408⟩, ⟨_, rfl, rfl⟩, by decide, by decide, by decide +kernel, by decide +kernel, by decide +kernel, by decide⟩
theorem wd_412 : Cond.code yX6_from cX6_from 3 (some .int) ∈ gw := gw_of (w := Cond.code yX6_from cX6_from 3 (some .int)) (by decide +kernel) (by decide +kernel)
theorem wd_413 : Cond.methodLink RL 49 yX6_from ∈ gw := gw_of (w := Cond.methodLink RL 49 yX6_from) (by decide +kernel) (by decide +kernel)
theorem wd_414 : Cond.instanceMethod yX6_from ∈ gw := gw_of (w := Cond.instanceMethod yX6_from) (by decide +kernel) (by decide +kernel)
theorem wd_415 : Cond.selects RX6 yX6_from yX6_from ∈ gw := gw_of (w := Cond.selects RX6 yX6_from yX6_from) (by decide +kernel) (by decide +kernel)
theorem vqL_49 : VQ RL 49 yX6_from cX6_from 3 (some .int) 7 2 := ⟨⟨wd_413, wd_414, wd_415, wd_276, wd_412⟩, ⟨_, rfl, rfl⟩, by decide, by decide, by decide +kernel, by decide +kernel, by decide +kernel, by decide⟩
theorem wd_416 : Cond.code yX5_to cX5_to 5 (some .int) ∈ gw := gw_of (w := Cond.code yX5_to cX5_to 5 (some .int)) (by decide +kernel) (by decide +kernel)
theorem wd_417 : Cond.methodLink RL 50 yX5_to ∈ gw := gw_of (w := Cond.methodLink RL 50 yX5_to) (by decide +kernel) (by decide +kernel)
theorem wd_418 : Cond.instanceMethod yX5_to ∈ gw := gw_of (w := Cond.instanceMethod yX5_to) (by decide +kernel) (by decide +kernel)
theorem wd_419 : Cond.selects RX5 yX5_to yX5_to ∈ gw := gw_of (w := Cond.selects RX5 yX5_to yX5_to) (by decide +kernel) (by decide +kernel)
theorem vqL_50 : VQ RL 50 yX5_to cX5_to 5 (some .int) 6 2 := ⟨⟨wd_417, wd_418, wd_419, wd_84, wd_416⟩, ⟨_, rfl, rfl⟩, by decide, by decide, by decide +kernel, by decide +kernel, by decide +kernel, by decide⟩
theorem wd_420 : Cond.code yX6_to cX6_to 3 (some .int) ∈ gw := gw_of (w := Cond.code yX6_to cX6_to 3 (some .int)) (by decide +kernel) (by decide +kernel)
theorem wd_421 : Cond.methodLink RL 53 yX6_to ∈ gw := gw_of (w := Cond.methodLink RL 53 yX6_to) (by decide +kernel) (by decide +kernel)
theorem wd_422 : Cond.instanceMethod yX6_to ∈ gw := gw_of (w := Cond.instanceMethod yX6_to) (by decide +kernel) (by decide +kernel)
theorem wd_423 : Cond.selects RX6 yX6_to yX6_to ∈ gw := gw_of (w := Cond.selects RX6 yX6_to yX6_to) (by decide +kernel) (by decide +kernel)
theorem vqL_53 : VQ RL 53 yX6_to cX6_to 3 (some .int) 7 2 := ⟨⟨wd_421, wd_422, wd_423, wd_276, wd_420⟩, ⟨_, rfl, rfl⟩, by decide, by decide, by decide +kernel, by decide +kernel, by decide +kernel, by decide⟩
theorem wd_424 : Cond.code yX5_run cX5_run 3 (some .int) ∈ gw := gw_of (w := Cond.code yX5_run cX5_run 3 (some .int)) (by decide +kernel) (by decide +kernel)
theorem wd_425 : Cond.methodLink RL 54 yX5_run ∈ gw := gw_of (w := Cond.methodLink RL 54 yX5_run) (by decide +kernel) (by decide +kernel)
theorem wd_426 : Cond.instanceMethod yX5_run ∈ gw := gw_of (w := Cond.instanceMethod yX5_run) (by decide +kernel) (by decide +kernel)
theorem wd_427 : Cond.selects RX5 yX5_run yX5_run ∈ gw := gw_of (w := Cond.selects RX5 yX5_run yX5_run) (by decide +kernel) (by decide +kernel)
theorem vqL_54 : VQ RL 54 yX5_run cX5_run 3 (some .int) 6 0 := ⟨⟨wd_425, wd_426, wd_427, wd_84, wd_424⟩, ⟨_, rfl, rfl⟩, by decide, by decide, by decide +kernel, by decide +kernel, by decide +kernel, by decide⟩
theorem wd_428 : Cond.code yX6_run cX6_run 6 (some .int) ∈ gw := gw_of (w := Cond.code yX6_run cX6_run 6 (some .int)) (by decide +kernel) (by decide +kernel)
theorem wd_429 : Cond.methodLink RL 58 yX6_run ∈ gw := gw_of (w := Cond.methodLink RL 58 yX6_run) (by decide +kernel) (by decide +kernel)
theorem wd_430 : Cond.instanceMethod yX6_run ∈ gw := gw_of (w := Cond.instanceMethod yX6_run) (by decide +kernel) (by decide +kernel)
theorem wd_431 : Cond.selects RX6 yX6_run yX6_run ∈ gw := gw_of (w := Cond.selects RX6 yX6_run yX6_run) (by decide +kernel) (by decide +kernel)
theorem vqL_58 : VQ RL 58 yX6_run cX6_run 6 (some .int) 7 0 := ⟨⟨wd_429, wd_430, wd_431, wd_276, wd_428⟩, ⟨_, rfl, rfl⟩, by decide, by decide, by decide +kernel, by decide +kernel, by decide +kernel, by decide⟩
theorem wd_432 : Cond.code yX6_at cX6_at 2 (some .int) ∈ gw := gw_of (w := Cond.code yX6_at cX6_at 2 (some .int)) (by decide +kernel) (by decide +kernel)
theorem wd_433 : Cond.methodLink RL 64 yX6_at ∈ gw := gw_of (w := Cond.methodLink RL 64 yX6_at) (by decide +kernel) (by decide +kernel)
theorem wd_434 : Cond.instanceMethod yX6_at ∈ gw := gw_of (w := Cond.instanceMethod yX6_at) (by decide +kernel) (by decide +kernel)
theorem wd_435 : Cond.selects RX6 yX6_at yX6_at ∈ gw := gw_of (w := Cond.selects RX6 yX6_at yX6_at) (by decide +kernel) (by decide +kernel)
theorem vqL_64 : VQ RL 64 yX6_at cX6_at 2 (some .int) 7 1 := ⟨⟨wd_433, wd_434, wd_435, wd_276, wd_432⟩, ⟨_, rfl, rfl⟩, by decide, by decide, by decide +kernel, by decide +kernel, by decide +kernel, by decide⟩
theorem wd_436 : Cond.code yX6_thrown cX6_thrown 1 (some .int) ∈ gw := gw_of (w := Cond.code yX6_thrown cX6_thrown 1 (some .int)) (by decide +kernel) (by decide +kernel)
theorem wd_437 : Cond.methodLink RL 65 yX6_thrown ∈ gw := gw_of (w := Cond.methodLink RL 65 yX6_thrown) (by decide +kernel) (by decide +kernel)
theorem wd_438 : Cond.instanceMethod yX6_thrown ∈ gw := gw_of (w := Cond.instanceMethod yX6_thrown) (by decide +kernel) (by decide +kernel)
theorem wd_439 : Cond.selects RX6 yX6_thrown yX6_thrown ∈ gw := gw_of (w := Cond.selects RX6 yX6_thrown yX6_thrown) (by decide +kernel) (by decide +kernel)
theorem vqL_65 : VQ RL 65 yX6_thrown cX6_thrown 1 (some .int) 7 0 := ⟨⟨wd_437, wd_438, wd_439, wd_276, wd_436⟩, ⟨_, rfl, rfl⟩, by decide, by decide, by decide +kernel, by decide +kernel, by decide +kernel, by decide⟩
theorem wd_440 : Cond.code yX5_place cX5_place 3 (some .int) ∈ gw := gw_of (w := Cond.code yX5_place cX5_place 3 (some .int)) (by decide +kernel) (by decide +kernel)
theorem wd_441 : Cond.methodLink RL 68 yX5_place ∈ gw := gw_of (w := Cond.methodLink RL 68 yX5_place) (by decide +kernel) (by decide +kernel)
theorem wd_442 : Cond.instanceMethod yX5_place ∈ gw := gw_of (w := Cond.instanceMethod yX5_place) (by decide +kernel) (by decide +kernel)
theorem wd_443 : Cond.selects RX5 yX5_place yX5_place ∈ gw := gw_of (w := Cond.selects RX5 yX5_place yX5_place) (by decide +kernel) (by decide +kernel)
theorem vqL_68 : VQ RL 68 yX5_place cX5_place 3 (some .int) 6 2 := ⟨⟨wd_441, wd_442, wd_443, wd_84, wd_440⟩, ⟨_, rfl, rfl⟩, by decide, by decide, by decide +kernel, by decide +kernel, by decide +kernel, by decide⟩
theorem wd_444 : Cond.code yX6_place cX6_place 3 (some .int) ∈ gw := gw_of (w := Cond.code yX6_place cX6_place 3 (some .int)) (by decide +kernel) (by decide +kernel)
theorem wd_445 : Cond.methodLink RL 71 yX6_place ∈ gw := gw_of (w := Cond.methodLink RL 71 yX6_place) (by decide +kernel) (by decide +kernel)
theorem wd_446 : Cond.instanceMethod yX6_place ∈ gw := gw_of (w := Cond.instanceMethod yX6_place) (by decide +kernel) (by decide +kernel)
theorem wd_447 : Cond.selects RX6 yX6_place yX6_place ∈ gw := gw_of (w := Cond.selects RX6 yX6_place yX6_place) (by decide +kernel) (by decide +kernel)
theorem vqL_71 : VQ RL 71 yX6_place cX6_place 3 (some .int) 7 2 := ⟨⟨wd_445, wd_446, wd_447, wd_276, wd_444⟩, ⟨_, rfl, rfl⟩, by decide, by decide, by decide +kernel, by decide +kernel, by decide +kernel, by decide⟩
theorem wd_448 : Cond.code yX5_ring cX5_ring 2 (some .int) ∈ gw := gw_of (w := Cond.code yX5_ring cX5_ring 2 (some .int)) (by decide +kernel) (by decide +kernel)
theorem wd_449 : Cond.methodLink RL 72 yX5_ring ∈ gw := gw_of (w := Cond.methodLink RL 72 yX5_ring) (by decide +kernel) (by decide +kernel)
theorem wd_450 : Cond.instanceMethod yX5_ring ∈ gw := gw_of (w := Cond.instanceMethod yX5_ring) (by decide +kernel) (by decide +kernel)
theorem wd_451 : Cond.selects RX5 yX5_ring yX5_ring ∈ gw := gw_of (w := Cond.selects RX5 yX5_ring yX5_ring) (by decide +kernel) (by decide +kernel)
theorem vqL_72 : VQ RL 72 yX5_ring cX5_ring 2 (some .int) 6 1 := ⟨⟨wd_449, wd_450, wd_451, wd_84, wd_448⟩, ⟨_, rfl, rfl⟩, by decide, by decide, by decide +kernel, by decide +kernel, by decide +kernel, by decide⟩
theorem wd_452 : Cond.code yX6_ring cX6_ring 2 (some .int) ∈ gw := gw_of (w := Cond.code yX6_ring cX6_ring 2 (some .int)) (by decide +kernel) (by decide +kernel)
theorem wd_453 : Cond.methodLink RL 75 yX6_ring ∈ gw := gw_of (w := Cond.methodLink RL 75 yX6_ring) (by decide +kernel) (by decide +kernel)
theorem wd_454 : Cond.instanceMethod yX6_ring ∈ gw := gw_of (w := Cond.instanceMethod yX6_ring) (by decide +kernel) (by decide +kernel)
theorem wd_455 : Cond.selects RX6 yX6_ring yX6_ring ∈ gw := gw_of (w := Cond.selects RX6 yX6_ring yX6_ring) (by decide +kernel) (by decide +kernel)
theorem vqL_75 : VQ RL 75 yX6_ring cX6_ring 2 (some .int) 7 1 := ⟨⟨wd_453, wd_454, wd_455, wd_276, wd_452⟩, ⟨_, rfl, rfl⟩, by decide, by decide, by decide +kernel, by decide +kernel, by decide +kernel, by decide⟩
theorem wd_456 : Cond.code yX5_count cX5_count 2 (some .int) ∈ gw := gw_of (w := Cond.code yX5_count cX5_count 2 (some .int)) (by decide +kernel) (by decide +kernel)
theorem wd_457 : Cond.methodLink RL 76 yX5_count ∈ gw := gw_of (w := Cond.methodLink RL 76 yX5_count) (by decide +kernel) (by decide +kernel)
theorem wd_458 : Cond.instanceMethod yX5_count ∈ gw := gw_of (w := Cond.instanceMethod yX5_count) (by decide +kernel) (by decide +kernel)
theorem wd_459 : Cond.selects RX5 yX5_count yX5_count ∈ gw := gw_of (w := Cond.selects RX5 yX5_count yX5_count) (by decide +kernel) (by decide +kernel)
theorem vqL_76 : VQ RL 76 yX5_count cX5_count 2 (some .int) 6 1 := ⟨⟨wd_457, wd_458, wd_459, wd_84, wd_456⟩, ⟨_, rfl, rfl⟩, by decide, by decide, by decide +kernel, by decide +kernel, by decide +kernel, by decide⟩
theorem wd_460 : Cond.code yX6_count cX6_count 2 (some .int) ∈ gw := gw_of (w := Cond.code yX6_count cX6_count 2 (some .int)) (by decide +kernel) (by decide +kernel)
theorem wd_461 : Cond.methodLink RL 79 yX6_count ∈ gw := gw_of (w := Cond.methodLink RL 79 yX6_count) (by decide +kernel) (by decide +kernel)
theorem wd_462 : Cond.instanceMethod yX6_count ∈ gw := gw_of (w := Cond.instanceMethod yX6_count) (by decide +kernel) (by decide +kernel)
theorem wd_463 : Cond.selects RX6 yX6_count yX6_count ∈ gw := gw_of (w := Cond.selects RX6 yX6_count yX6_count) (by decide +kernel) (by decide +kernel)
theorem vqL_79 : VQ RL 79 yX6_count cX6_count 2 (some .int) 7 1 := ⟨⟨wd_461, wd_462, wd_463, wd_276, wd_460⟩, ⟨_, rfl, rfl⟩, by decide, by decide, by decide +kernel, by decide +kernel, by decide +kernel, by decide⟩
theorem ac_int : Cond.arrayClass .int ∈ gw := gw_of (w := Cond.arrayClass .int) (by decide +kernel) (by decide +kernel)
theorem ac_boolean : Cond.arrayClass .boolean ∈ gw := gw_of (w := Cond.arrayClass .boolean) (by decide +kernel) (by decide +kernel)
theorem ac_long : Cond.arrayClass .long ∈ gw := gw_of (w := Cond.arrayClass .long) (by decide +kernel) (by decide +kernel)
theorem lc_X6_87 : Cond.constant RX6 87 387420489 ∈ gw := gw_of (w := Cond.constant RX6 87 387420489) (by decide +kernel) (by decide +kernel)
