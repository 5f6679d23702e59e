/-! INIT: the constructors (by program) -/
theorem mkL_0 : mkL 0 0 = 0 := by decide +kernel
theorem w2_15 : Cond.methodLink RX0 3 Lib.objectInit ∈ ALL := all_tbl (tb2 (List.mem_of_getElem? (i := 15) rfl)) rfl
theorem w1_27 : Cond.instanceMethod Lib.objectInit ∈ ALL := all_tbl (tb1 (List.mem_of_getElem? (i := 27) rfl)) rfl
theorem w1_28 : Cond.code Lib.objectInit ⟨#[0xb1]⟩ 1 none ∈ ALL := all_tbl (tb1 (List.mem_of_getElem? (i := 28) rfl)) rfl
theorem w1_34 : Cond.methodLink RX3 3 Lib.objectInit ∈ ALL := all_tbl (tb1 (List.mem_of_getElem? (i := 34) rfl)) rfl
theorem w1_130 : Cond.methodLink RX9 3 Lib.objectInit ∈ ALL := all_tbl (tb1 (List.mem_of_getElem? (i := 130) rfl)) rfl
theorem w1_159 : Cond.methodLink RX10 3 Lib.objectInit ∈ ALL := all_tbl (tb1 (List.mem_of_getElem? (i := 159) rfl)) rfl
theorem w1_182 : Cond.methodLink RX4 3 Lib.objectInit ∈ ALL := all_tbl (tb1 (List.mem_of_getElem? (i := 182) rfl)) rfl
theorem w2_9 : Cond.methodLink RX5 3 Lib.objectInit ∈ ALL := all_tbl (tb2 (List.mem_of_getElem? (i := 9) rfl)) rfl
theorem w2_10 : Cond.classLink RX5 9 RX0 ∈ ALL := all_tbl (tb2 (List.mem_of_getElem? (i := 10) rfl)) rfl
theorem w2_11 : Cond.instantiable RX0 2 ∈ ALL := all_tbl (tb2 (List.mem_of_getElem? (i := 11) rfl)) rfl
theorem w2_12 : (RX5, 11, yX0_init, RX11) ∈ NESTS := List.mem_of_getElem? (i := 3) rfl
theorem w2_13 : Cond.instanceMethod yX0_init ∈ ALL := all_tbl (tb2 (List.mem_of_getElem? (i := 13) rfl)) rfl
theorem w2_93 : Cond.methodLink RX7 3 Lib.objectInit ∈ ALL := all_tbl (tb2 (List.mem_of_getElem? (i := 93) rfl)) rfl
theorem w2_94 : Cond.classLink RX7 15 RX0 ∈ ALL := all_tbl (tb2 (List.mem_of_getElem? (i := 94) rfl)) rfl
theorem w2_95 : (RX7, 17, yX0_init, RX11) ∈ NESTS := List.mem_of_getElem? (i := 5) rfl
theorem w1_105 : Cond.methodLink RX6 3 Lib.objectInit ∈ ALL := all_tbl (tb1 (List.mem_of_getElem? (i := 105) rfl)) rfl
theorem w5_197 : Cond.methodLink RX12 1 Lib.objectInit ∈ ALL := all_tbl (tb5 (List.mem_of_getElem? (i := 197) rfl)) rfl
theorem w2_176 : Cond.methodLink RX2 1 Lib.objectInit ∈ ALL := all_tbl (tb2 (List.mem_of_getElem? (i := 176) rfl)) rfl
theorem w2_177 : Cond.classLink RX2 7 RX0 ∈ ALL := all_tbl (tb2 (List.mem_of_getElem? (i := 177) rfl)) rfl
theorem w2_178 : (RX2, 9, yX0_init, RX11) ∈ NESTS := List.mem_of_getElem? (i := 7) rfl
theorem w2_64 : Cond.methodLink RX8 3 Lib.objectInit ∈ ALL := all_tbl (tb2 (List.mem_of_getElem? (i := 64) rfl)) rfl
theorem w2_65 : Cond.classLink RX8 11 RX0 ∈ ALL := all_tbl (tb2 (List.mem_of_getElem? (i := 65) rfl)) rfl
theorem w2_67 : (RX8, 23, yX0_init, RX11) ∈ NESTS := List.mem_of_getElem? (i := 4) rfl
theorem w2_129 : Cond.methodLink RX1 3 Lib.objectInit ∈ ALL := all_tbl (tb2 (List.mem_of_getElem? (i := 129) rfl)) rfl
theorem w2_130 : Cond.classLink RX1 15 RX0 ∈ ALL := all_tbl (tb2 (List.mem_of_getElem? (i := 130) rfl)) rfl
theorem w2_131 : (RX1, 17, yX0_init, RX11) ∈ NESTS := List.mem_of_getElem? (i := 6) rfl
theorem wac_int : Cond.arrayClass .int ∈ ALL := all_tbl (tb1 (List.mem_of_getElem? (i := 99) rfl)) (by decide +kernel)
theorem wac_boolean : Cond.arrayClass .boolean ∈ ALL := all_tbl (tb1 (List.mem_of_getElem? (i := 176) rfl)) (by decide +kernel)
theorem wac_byte : Cond.arrayClass .byte ∈ ALL := all_tbl (tb4 (List.mem_of_getElem? (i := 38) rfl)) (by decide +kernel)
theorem ff_X0_0 : FF RX0 0 0 := fun C T N h => by cases h; exact ⟨rfl, ⟨tyX0, tyX0_ok⟩, nmX0, _, tyX0_ok 0 (by decide), fun a => ⟨rfl, rfl⟩⟩
theorem ff_X3_1 : FF RX3 3 1 := fun C T N h => by cases h; exact ⟨rfl, ⟨tyX3, tyX3_ok⟩, nmX3, _, tyX3_ok 1 (by decide), fun a => ⟨rfl, rfl⟩⟩
theorem ff_X3_2 : FF RX3 3 2 := fun C T N h => by cases h; exact ⟨rfl, ⟨tyX3, tyX3_ok⟩, nmX3, _, tyX3_ok 2 (by decide), fun a => ⟨rfl, rfl⟩⟩
theorem ff_X3_4 : FF RX3 3 4 := fun C T N h => by cases h; exact ⟨rfl, ⟨tyX3, tyX3_ok⟩, nmX3, _, tyX3_ok 4 (by decide), fun a => ⟨rfl, rfl⟩⟩
theorem ff_X3_5 : FF RX3 3 5 := fun C T N h => by cases h; exact ⟨rfl, ⟨tyX3, tyX3_ok⟩, nmX3, _, tyX3_ok 5 (by decide), fun a => ⟨rfl, rfl⟩⟩
theorem ff_X3_6 : FF RX3 3 6 := fun C T N h => by cases h; exact ⟨rfl, ⟨tyX3, tyX3_ok⟩, nmX3, _, tyX3_ok 6 (by decide), fun a => ⟨rfl, rfl⟩⟩
theorem ff_X3_7 : FF RX3 3 7 := fun C T N h => by cases h; exact ⟨rfl, ⟨tyX3, tyX3_ok⟩, nmX3, _, tyX3_ok 7 (by decide), fun a => ⟨rfl, rfl⟩⟩
theorem ff_X3_9 : FF RX3 3 9 := fun C T N h => by cases h; exact ⟨rfl, ⟨tyX3, tyX3_ok⟩, nmX3, _, tyX3_ok 9 (by decide), fun a => ⟨rfl, rfl⟩⟩
theorem ff_X3_10 : FF RX3 3 10 := fun C T N h => by cases h; exact ⟨rfl, ⟨tyX3, tyX3_ok⟩, nmX3, _, tyX3_ok 10 (by decide), fun a => ⟨rfl, rfl⟩⟩
theorem ff_X3_11 : FF RX3 3 11 := fun C T N h => by cases h; exact ⟨rfl, ⟨tyX3, tyX3_ok⟩, nmX3, _, tyX3_ok 11 (by decide), fun a => ⟨rfl, rfl⟩⟩
theorem ff_X3_12 : FF RX3 3 12 := fun C T N h => by cases h; exact ⟨rfl, ⟨tyX3, tyX3_ok⟩, nmX3, _, tyX3_ok 12 (by decide), fun a => ⟨rfl, rfl⟩⟩
theorem ff_X3_13 : FF RX3 3 13 := fun C T N h => by cases h; exact ⟨rfl, ⟨tyX3, tyX3_ok⟩, nmX3, _, tyX3_ok 13 (by decide), fun a => ⟨rfl, rfl⟩⟩
theorem ff_X3_14 : FF RX3 3 14 := fun C T N h => by cases h; exact ⟨rfl, ⟨tyX3, tyX3_ok⟩, nmX3, _, tyX3_ok 14 (by decide), fun a => ⟨rfl, rfl⟩⟩
theorem ff_X9_0 : FF RX9 9 0 := fun C T N h => by cases h; exact ⟨rfl, ⟨tyX9, tyX9_ok⟩, nmX9, _, tyX9_ok 0 (by decide), fun a => ⟨rfl, rfl⟩⟩
theorem ff_X9_3 : FF RX9 9 3 := fun C T N h => by cases h; exact ⟨rfl, ⟨tyX9, tyX9_ok⟩, nmX9, _, tyX9_ok 3 (by decide), fun a => ⟨rfl, rfl⟩⟩
theorem ff_X9_4 : FF RX9 9 4 := fun C T N h => by cases h; exact ⟨rfl, ⟨tyX9, tyX9_ok⟩, nmX9, _, tyX9_ok 4 (by decide), fun a => ⟨rfl, rfl⟩⟩
theorem ff_X10_1 : FF RX10 10 1 := fun C T N h => by cases h; exact ⟨rfl, ⟨tyX10, tyX10_ok⟩, nmX10, _, tyX10_ok 1 (by decide), fun a => ⟨rfl, rfl⟩⟩
theorem ff_X10_2 : FF RX10 10 2 := fun C T N h => by cases h; exact ⟨rfl, ⟨tyX10, tyX10_ok⟩, nmX10, _, tyX10_ok 2 (by decide), fun a => ⟨rfl, rfl⟩⟩
theorem ff_X10_3 : FF RX10 10 3 := fun C T N h => by cases h; exact ⟨rfl, ⟨tyX10, tyX10_ok⟩, nmX10, _, tyX10_ok 3 (by decide), fun a => ⟨rfl, rfl⟩⟩
theorem ff_X10_4 : FF RX10 10 4 := fun C T N h => by cases h; exact ⟨rfl, ⟨tyX10, tyX10_ok⟩, nmX10, _, tyX10_ok 4 (by decide), fun a => ⟨rfl, rfl⟩⟩
theorem ff_X10_0 : FF RX10 10 0 := fun C T N h => by cases h; exact ⟨rfl, ⟨tyX10, tyX10_ok⟩, nmX10, _, tyX10_ok 0 (by decide), fun a => ⟨rfl, rfl⟩⟩
theorem ff_X4_5 : FF RX4 4 5 := fun C T N h => by cases h; exact ⟨rfl, ⟨tyX4, tyX4_ok⟩, nmX4, _, tyX4_ok 5 (by decide), fun a => ⟨rfl, rfl⟩⟩
theorem ff_X4_6 : FF RX4 4 6 := fun C T N h => by cases h; exact ⟨rfl, ⟨tyX4, tyX4_ok⟩, nmX4, _, tyX4_ok 6 (by decide), fun a => ⟨rfl, rfl⟩⟩
theorem ff_X4_7 : FF RX4 4 7 := fun C T N h => by cases h; exact ⟨rfl, ⟨tyX4, tyX4_ok⟩, nmX4, _, tyX4_ok 7 (by decide), fun a => ⟨rfl, rfl⟩⟩
theorem ff_X4_8 : FF RX4 4 8 := fun C T N h => by cases h; exact ⟨rfl, ⟨tyX4, tyX4_ok⟩, nmX4, _, tyX4_ok 8 (by decide), fun a => ⟨rfl, rfl⟩⟩
theorem ff_X4_9 : FF RX4 4 9 := fun C T N h => by cases h; exact ⟨rfl, ⟨tyX4, tyX4_ok⟩, nmX4, _, tyX4_ok 9 (by decide), fun a => ⟨rfl, rfl⟩⟩
theorem ff_X4_10 : FF RX4 4 10 := fun C T N h => by cases h; exact ⟨rfl, ⟨tyX4, tyX4_ok⟩, nmX4, _, tyX4_ok 10 (by decide), fun a => ⟨rfl, rfl⟩⟩
theorem ff_X4_0 : FF RX4 4 0 := fun C T N h => by cases h; exact ⟨rfl, ⟨tyX4, tyX4_ok⟩, nmX4, _, tyX4_ok 0 (by decide), fun a => ⟨rfl, rfl⟩⟩
theorem ff_X4_1 : FF RX4 4 1 := fun C T N h => by cases h; exact ⟨rfl, ⟨tyX4, tyX4_ok⟩, nmX4, _, tyX4_ok 1 (by decide), fun a => ⟨rfl, rfl⟩⟩
theorem ff_X4_2 : FF RX4 4 2 := fun C T N h => by cases h; exact ⟨rfl, ⟨tyX4, tyX4_ok⟩, nmX4, _, tyX4_ok 2 (by decide), fun a => ⟨rfl, rfl⟩⟩
theorem ff_X5_3 : FF RX5 5 3 := fun C T N h => by cases h; exact ⟨rfl, ⟨tyX5, tyX5_ok⟩, nmX5, _, tyX5_ok 3 (by decide), fun a => ⟨rfl, rfl⟩⟩
theorem ff_X5_4 : FF RX5 5 4 := fun C T N h => by cases h; exact ⟨rfl, ⟨tyX5, tyX5_ok⟩, nmX5, _, tyX5_ok 4 (by decide), fun a => ⟨rfl, rfl⟩⟩
theorem ff_X5_5 : FF RX5 5 5 := fun C T N h => by cases h; exact ⟨rfl, ⟨tyX5, tyX5_ok⟩, nmX5, _, tyX5_ok 5 (by decide), fun a => ⟨rfl, rfl⟩⟩
theorem ff_X5_6 : FF RX5 5 6 := fun C T N h => by cases h; exact ⟨rfl, ⟨tyX5, tyX5_ok⟩, nmX5, _, tyX5_ok 6 (by decide), fun a => ⟨rfl, rfl⟩⟩
theorem ff_X5_7 : FF RX5 5 7 := fun C T N h => by cases h; exact ⟨rfl, ⟨tyX5, tyX5_ok⟩, nmX5, _, tyX5_ok 7 (by decide), fun a => ⟨rfl, rfl⟩⟩
theorem ff_X5_8 : FF RX5 5 8 := fun C T N h => by cases h; exact ⟨rfl, ⟨tyX5, tyX5_ok⟩, nmX5, _, tyX5_ok 8 (by decide), fun a => ⟨rfl, rfl⟩⟩
theorem ff_X5_0 : FF RX5 5 0 := fun C T N h => by cases h; exact ⟨rfl, ⟨tyX5, tyX5_ok⟩, nmX5, _, tyX5_ok 0 (by decide), fun a => ⟨rfl, rfl⟩⟩
theorem ff_X5_1 : FF RX5 5 1 := fun C T N h => by cases h; exact ⟨rfl, ⟨tyX5, tyX5_ok⟩, nmX5, _, tyX5_ok 1 (by decide), fun a => ⟨rfl, rfl⟩⟩
theorem ff_X7_1 : FF RX7 7 1 := fun C T N h => by cases h; exact ⟨rfl, ⟨tyX7, tyX7_ok⟩, nmX7, _, tyX7_ok 1 (by decide), fun a => ⟨rfl, rfl⟩⟩
theorem ff_X7_3 : FF RX7 7 3 := fun C T N h => by cases h; exact ⟨rfl, ⟨tyX7, tyX7_ok⟩, nmX7, _, tyX7_ok 3 (by decide), fun a => ⟨rfl, rfl⟩⟩
theorem ff_X7_4 : FF RX7 7 4 := fun C T N h => by cases h; exact ⟨rfl, ⟨tyX7, tyX7_ok⟩, nmX7, _, tyX7_ok 4 (by decide), fun a => ⟨rfl, rfl⟩⟩
theorem ff_X7_5 : FF RX7 7 5 := fun C T N h => by cases h; exact ⟨rfl, ⟨tyX7, tyX7_ok⟩, nmX7, _, tyX7_ok 5 (by decide), fun a => ⟨rfl, rfl⟩⟩
theorem ff_X7_6 : FF RX7 7 6 := fun C T N h => by cases h; exact ⟨rfl, ⟨tyX7, tyX7_ok⟩, nmX7, _, tyX7_ok 6 (by decide), fun a => ⟨rfl, rfl⟩⟩
theorem ff_X7_7 : FF RX7 7 7 := fun C T N h => by cases h; exact ⟨rfl, ⟨tyX7, tyX7_ok⟩, nmX7, _, tyX7_ok 7 (by decide), fun a => ⟨rfl, rfl⟩⟩
theorem ff_X7_0 : FF RX7 7 0 := fun C T N h => by cases h; exact ⟨rfl, ⟨tyX7, tyX7_ok⟩, nmX7, _, tyX7_ok 0 (by decide), fun a => ⟨rfl, rfl⟩⟩
theorem ff_X6_0 : FF RX6 6 0 := fun C T N h => by cases h; exact ⟨rfl, ⟨tyX6, tyX6_ok⟩, nmX6, _, tyX6_ok 0 (by decide), fun a => ⟨rfl, rfl⟩⟩
theorem ff_X6_2 : FF RX6 6 2 := fun C T N h => by cases h; exact ⟨rfl, ⟨tyX6, tyX6_ok⟩, nmX6, _, tyX6_ok 2 (by decide), fun a => ⟨rfl, rfl⟩⟩
theorem ff_X6_3 : FF RX6 6 3 := fun C T N h => by cases h; exact ⟨rfl, ⟨tyX6, tyX6_ok⟩, nmX6, _, tyX6_ok 3 (by decide), fun a => ⟨rfl, rfl⟩⟩
theorem ff_X12_0 : FF RX12 12 0 := fun C T N h => by cases h; exact ⟨rfl, ⟨tyX12, tyX12_ok⟩, nmX12, _, tyX12_ok 0 (by decide), fun a => ⟨rfl, rfl⟩⟩
theorem ff_X12_1 : FF RX12 12 1 := fun C T N h => by cases h; exact ⟨rfl, ⟨tyX12, tyX12_ok⟩, nmX12, _, tyX12_ok 1 (by decide), fun a => ⟨rfl, rfl⟩⟩
theorem ff_X12_2 : FF RX12 12 2 := fun C T N h => by cases h; exact ⟨rfl, ⟨tyX12, tyX12_ok⟩, nmX12, _, tyX12_ok 2 (by decide), fun a => ⟨rfl, rfl⟩⟩
theorem ff_X12_3 : FF RX12 12 3 := fun C T N h => by cases h; exact ⟨rfl, ⟨tyX12, tyX12_ok⟩, nmX12, _, tyX12_ok 3 (by decide), fun a => ⟨rfl, rfl⟩⟩
theorem ff_X12_10 : FF RX12 12 10 := fun C T N h => by cases h; exact ⟨rfl, ⟨tyX12, tyX12_ok⟩, nmX12, _, tyX12_ok 10 (by decide), fun a => ⟨rfl, rfl⟩⟩
theorem ff_X12_11 : FF RX12 12 11 := fun C T N h => by cases h; exact ⟨rfl, ⟨tyX12, tyX12_ok⟩, nmX12, _, tyX12_ok 11 (by decide), fun a => ⟨rfl, rfl⟩⟩
theorem ff_X12_14 : FF RX12 12 14 := fun C T N h => by cases h; exact ⟨rfl, ⟨tyX12, tyX12_ok⟩, nmX12, _, tyX12_ok 14 (by decide), fun a => ⟨rfl, rfl⟩⟩
theorem ff_X12_15 : FF RX12 12 15 := fun C T N h => by cases h; exact ⟨rfl, ⟨tyX12, tyX12_ok⟩, nmX12, _, tyX12_ok 15 (by decide), fun a => ⟨rfl, rfl⟩⟩
theorem ff_X12_16 : FF RX12 12 16 := fun C T N h => by cases h; exact ⟨rfl, ⟨tyX12, tyX12_ok⟩, nmX12, _, tyX12_ok 16 (by decide), fun a => ⟨rfl, rfl⟩⟩
theorem ff_X12_18 : FF RX12 12 18 := fun C T N h => by cases h; exact ⟨rfl, ⟨tyX12, tyX12_ok⟩, nmX12, _, tyX12_ok 18 (by decide), fun a => ⟨rfl, rfl⟩⟩
theorem ff_X12_20 : FF RX12 12 20 := fun C T N h => by cases h; exact ⟨rfl, ⟨tyX12, tyX12_ok⟩, nmX12, _, tyX12_ok 20 (by decide), fun a => ⟨rfl, rfl⟩⟩
theorem ff_X12_21 : FF RX12 12 21 := fun C T N h => by cases h; exact ⟨rfl, ⟨tyX12, tyX12_ok⟩, nmX12, _, tyX12_ok 21 (by decide), fun a => ⟨rfl, rfl⟩⟩
theorem ff_X12_22 : FF RX12 12 22 := fun C T N h => by cases h; exact ⟨rfl, ⟨tyX12, tyX12_ok⟩, nmX12, _, tyX12_ok 22 (by decide), fun a => ⟨rfl, rfl⟩⟩
theorem ff_X12_23 : FF RX12 12 23 := fun C T N h => by cases h; exact ⟨rfl, ⟨tyX12, tyX12_ok⟩, nmX12, _, tyX12_ok 23 (by decide), fun a => ⟨rfl, rfl⟩⟩
theorem ff_X12_24 : FF RX12 12 24 := fun C T N h => by cases h; exact ⟨rfl, ⟨tyX12, tyX12_ok⟩, nmX12, _, tyX12_ok 24 (by decide), fun a => ⟨rfl, rfl⟩⟩
theorem ff_X12_25 : FF RX12 12 25 := fun C T N h => by cases h; exact ⟨rfl, ⟨tyX12, tyX12_ok⟩, nmX12, _, tyX12_ok 25 (by decide), fun a => ⟨rfl, rfl⟩⟩
theorem ff_X12_26 : FF RX12 12 26 := fun C T N h => by cases h; exact ⟨rfl, ⟨tyX12, tyX12_ok⟩, nmX12, _, tyX12_ok 26 (by decide), fun a => ⟨rfl, rfl⟩⟩
theorem ff_X2_0 : FF RX2 2 0 := fun C T N h => by cases h; exact ⟨rfl, ⟨tyX2, tyX2_ok⟩, nmX2, _, tyX2_ok 0 (by decide), fun a => ⟨rfl, rfl⟩⟩
theorem ff_X2_1 : FF RX2 2 1 := fun C T N h => by cases h; exact ⟨rfl, ⟨tyX2, tyX2_ok⟩, nmX2, _, tyX2_ok 1 (by decide), fun a => ⟨rfl, rfl⟩⟩
theorem ff_X8_2 : FF RX8 8 2 := fun C T N h => by cases h; exact ⟨rfl, ⟨tyX8, tyX8_ok⟩, nmX8, _, tyX8_ok 2 (by decide), fun a => ⟨rfl, rfl⟩⟩
theorem ff_X8_3 : FF RX8 8 3 := fun C T N h => by cases h; exact ⟨rfl, ⟨tyX8, tyX8_ok⟩, nmX8, _, tyX8_ok 3 (by decide), fun a => ⟨rfl, rfl⟩⟩
theorem ff_X8_4 : FF RX8 8 4 := fun C T N h => by cases h; exact ⟨rfl, ⟨tyX8, tyX8_ok⟩, nmX8, _, tyX8_ok 4 (by decide), fun a => ⟨rfl, rfl⟩⟩
theorem ff_X8_5 : FF RX8 8 5 := fun C T N h => by cases h; exact ⟨rfl, ⟨tyX8, tyX8_ok⟩, nmX8, _, tyX8_ok 5 (by decide), fun a => ⟨rfl, rfl⟩⟩
theorem ff_X1_2 : FF RX1 1 2 := fun C T N h => by cases h; exact ⟨rfl, ⟨tyX1, tyX1_ok⟩, nmX1, _, tyX1_ok 2 (by decide), fun a => ⟨rfl, rfl⟩⟩
theorem ff_X1_3 : FF RX1 1 3 := fun C T N h => by cases h; exact ⟨rfl, ⟨tyX1, tyX1_ok⟩, nmX1, _, tyX1_ok 3 (by decide), fun a => ⟨rfl, rfl⟩⟩
theorem ff_X1_4 : FF RX1 1 4 := fun C T N h => by cases h; exact ⟨rfl, ⟨tyX1, tyX1_ok⟩, nmX1, _, tyX1_ok 4 (by decide), fun a => ⟨rfl, rfl⟩⟩
theorem ff_X1_5 : FF RX1 1 5 := fun C T N h => by cases h; exact ⟨rfl, ⟨tyX1, tyX1_ok⟩, nmX1, _, tyX1_ok 5 (by decide), fun a => ⟨rfl, rfl⟩⟩
theorem ff_X1_6 : FF RX1 1 6 := fun C T N h => by cases h; exact ⟨rfl, ⟨tyX1, tyX1_ok⟩, nmX1, _, tyX1_ok 6 (by decide), fun a => ⟨rfl, rfl⟩⟩
theorem ff_X1_7 : FF RX1 1 7 := fun C T N h => by cases h; exact ⟨rfl, ⟨tyX1, tyX1_ok⟩, nmX1, _, tyX1_ok 7 (by decide), fun a => ⟨rfl, rfl⟩⟩
theorem ff_X1_8 : FF RX1 1 8 := fun C T N h => by cases h; exact ⟨rfl, ⟨tyX1, tyX1_ok⟩, nmX1, _, tyX1_ok 8 (by decide), fun a => ⟨rfl, rfl⟩⟩
theorem ff_X1_9 : FF RX1 1 9 := fun C T N h => by cases h; exact ⟨rfl, ⟨tyX1, tyX1_ok⟩, nmX1, _, tyX1_ok 9 (by decide), fun a => ⟨rfl, rfl⟩⟩
theorem ff_X1_10 : FF RX1 1 10 := fun C T N h => by cases h; exact ⟨rfl, ⟨tyX1, tyX1_ok⟩, nmX1, _, tyX1_ok 10 (by decide), fun a => ⟨rfl, rfl⟩⟩
theorem ff_X1_11 : FF RX1 1 11 := fun C T N h => by cases h; exact ⟨rfl, ⟨tyX1, tyX1_ok⟩, nmX1, _, tyX1_ok 11 (by decide), fun a => ⟨rfl, rfl⟩⟩
theorem ff_X1_0 : FF RX1 1 0 := fun C T N h => by cases h; exact ⟨rfl, ⟨tyX1, tyX1_ok⟩, nmX1, _, tyX1_ok 0 (by decide), fun a => ⟨rfl, rfl⟩⟩
theorem ff_X1_1 : FF RX1 1 1 := fun C T N h => by cases h; exact ⟨rfl, ⟨tyX1, tyX1_ok⟩, nmX1, _, tyX1_ok 1 (by decide), fun a => ⟨rfl, rfl⟩⟩
theorem df_X0 : ∀ j, j < 2 → defaultValue (tyX0 j) = vp_V [.null, .int 0] j := fun j hj => by
  match j, hj with
  | 0, _ => rfl
  | 1, _ => rfl
theorem i_X0 {Z : ZT} {μ : Mu} {M : Mem} {o : Nat} (hs : SH o = .inl 0) (hM : M o = .inr (0, [.null, .int 0])) (s1 : SH (o + 1) = .inr (0, 24)) (z1 : μ (o + 1) = fun _ => 0) (y1 : μ o 1 = 0) : Ctr Z mX0_init [.ref (Z.2.2.1 + o)] (o + 1) (o + 1 + 1) 24 M (PK Z μ M o (o + 1 + 1)) := by
  refine CtrK (by decide +kernel) (Nat.le_of_ble_eq_true rfl) rfl fun X E hB => ?_
  refine K_in (μ := μ) hM ?_
  refine J_aload_n E dX0_init_0 rfl ?_
  refine J_oinit (o := o) E dX0_init_1 w2_15 w1_27 w1_28 (Nat.le_of_ble_eq_true rfl) (Nat.le_of_ble_eq_true rfl) ?_
  refine J_aload_n E dX0_init_4 rfl ?_
  refine J_bipush (v := nI 24) E dX0_init_5 (by decide +kernel) ?_
  refine G_int (N := 24) (o := o) (ci := 0) (q := 0) E dX0_init_7 dX0_init_9 wac_int (by decide) fs_X0_9 ff_X0_0 rfl (by omega) (Nat.le_of_ble_eq_true rfl) (BS_int (by omega) s1 z1) (Nat.le_of_ble_eq_true rfl) (Nat.le_of_ble_eq_true rfl) ?_
  refine J_vret E hB dX0_init_12 rfl (K_out hs ?_)
  simp only [fieldsOf, y1]
  rfl
theorem i_X3 {Z : ZT} {μ : Mu} {M : Mem} {o : Nat} (hs : SH o = .inl 3) (hM : M o = .inr (3, [.int 0, .null, .null, .int 0, .null, .null, .null, .null, .int 0, .null, .null, .null, .null, .null, .null])) (s1 : SH (o + 1) = .inr (0, 100)) (z1 : μ (o + 1) = fun _ => 0) (s2 : SH (o + 2) = .inr (0, 10)) (z2 : μ (o + 2) = fun _ => 0) (s3 : SH (o + 3) = .inr (0, 6)) (z3 : μ (o + 3) = fun _ => 0) (s4 : SH (o + 4) = .inr (0, 24)) (z4 : μ (o + 4) = fun _ => 0) (s5 : SH (o + 5) = .inr (0, 6)) (z5 : μ (o + 5) = fun _ => 0) (s6 : SH (o + 6) = .inr (0, 6)) (z6 : μ (o + 6) = fun _ => 0) (s7 : SH (o + 7) = .inr (0, 8)) (z7 : μ (o + 7) = fun _ => 0) (s8 : SH (o + 8) = .inr (0, 8)) (z8 : μ (o + 8) = fun _ => 0) (s9 : SH (o + 9) = .inr (0, 8)) (z9 : μ (o + 9) = fun _ => 0) (s10 : SH (o + 10) = .inr (0, 8)) (z10 : μ (o + 10) = fun _ => 0) (s11 : SH (o + 11) = .inr (0, 2)) (z11 : μ (o + 11) = fun _ => 0) (s12 : SH (o + 12) = .inr (0, 12)) (z12 : μ (o + 12) = fun _ => 0) (y0 : μ o 0 = 0) (y3 : μ o 3 = 0) (y8 : μ o 8 = 0) : Ctr Z mX3_init [.ref (Z.2.2.1 + o)] (o + 1) (o + 1 + 12) 198 M (PK Z μ M o (o + 1 + 12)) := by
  refine CtrK (by decide +kernel) (Nat.le_of_ble_eq_true rfl) rfl fun X E hB => ?_
  refine K_in (μ := μ) hM ?_
  refine J_aload_n E dX3_init_0 rfl ?_
  refine J_oinit (o := o) E dX3_init_1 w1_34 w1_27 w1_28 (Nat.le_of_ble_eq_true rfl) (Nat.le_of_ble_eq_true rfl) ?_
  refine J_aload_n E dX3_init_4 rfl ?_
  refine J_bipush (v := nI 100) E dX3_init_5 (by decide +kernel) ?_
  refine G_int (N := 100) (o := o) (ci := 3) (q := 1) E dX3_init_7 dX3_init_9 wac_int (by decide) fs_X3_9 ff_X3_1 rfl (by omega) (Nat.le_of_ble_eq_true rfl) (BS_int (by omega) s1 z1) (Nat.le_of_ble_eq_true rfl) (Nat.le_of_ble_eq_true rfl) ?_
  refine J_aload_n E dX3_init_12 rfl ?_
  refine J_bipush (v := nI 10) E dX3_init_13 (by decide +kernel) ?_
  refine G_int (N := 10) (o := o) (ci := 3) (q := 2) E dX3_init_15 dX3_init_17 wac_int (by decide) fs_X3_15 ff_X3_2 rfl (by omega) (Nat.le_of_ble_eq_true rfl) (BS_int (by omega) s2 z2) (Nat.le_of_ble_eq_true rfl) (Nat.le_of_ble_eq_true rfl) ?_
  refine J_aload_n E dX3_init_20 rfl ?_
  refine J_bipush (v := nI 6) E dX3_init_21 (by decide +kernel) ?_
  refine G_int (N := 6) (o := o) (ci := 3) (q := 4) E dX3_init_23 dX3_init_25 wac_int (by decide) fs_X3_18 ff_X3_4 rfl (by omega) (Nat.le_of_ble_eq_true rfl) (BS_int (by omega) s3 z3) (Nat.le_of_ble_eq_true rfl) (Nat.le_of_ble_eq_true rfl) ?_
  refine J_aload_n E dX3_init_28 rfl ?_
  refine J_bipush (v := nI 24) E dX3_init_29 (by decide +kernel) ?_
  refine G_int (N := 24) (o := o) (ci := 3) (q := 5) E dX3_init_31 dX3_init_33 wac_int (by decide) fs_X3_21 ff_X3_5 rfl (by omega) (Nat.le_of_ble_eq_true rfl) (BS_int (by omega) s4 z4) (Nat.le_of_ble_eq_true rfl) (Nat.le_of_ble_eq_true rfl) ?_
  refine J_aload_n E dX3_init_36 rfl ?_
  refine J_bipush (v := nI 6) E dX3_init_37 (by decide +kernel) ?_
  refine G_int (N := 6) (o := o) (ci := 3) (q := 6) E dX3_init_39 dX3_init_41 wac_int (by decide) fs_X3_24 ff_X3_6 rfl (by omega) (Nat.le_of_ble_eq_true rfl) (BS_int (by omega) s5 z5) (Nat.le_of_ble_eq_true rfl) (Nat.le_of_ble_eq_true rfl) ?_
  refine J_aload_n E dX3_init_44 rfl ?_
  refine J_bipush (v := nI 6) E dX3_init_45 (by decide +kernel) ?_
  refine G_int (N := 6) (o := o) (ci := 3) (q := 7) E dX3_init_47 dX3_init_49 wac_int (by decide) fs_X3_27 ff_X3_7 rfl (by omega) (Nat.le_of_ble_eq_true rfl) (BS_int (by omega) s6 z6) (Nat.le_of_ble_eq_true rfl) (Nat.le_of_ble_eq_true rfl) ?_
  refine J_aload_n E dX3_init_52 rfl ?_
  refine J_bipush (v := nI 8) E dX3_init_53 (by decide +kernel) ?_
  refine G_int (N := 8) (o := o) (ci := 3) (q := 9) E dX3_init_55 dX3_init_57 wac_int (by decide) fs_X3_30 ff_X3_9 rfl (by omega) (Nat.le_of_ble_eq_true rfl) (BS_int (by omega) s7 z7) (Nat.le_of_ble_eq_true rfl) (Nat.le_of_ble_eq_true rfl) ?_
  refine J_aload_n E dX3_init_60 rfl ?_
  refine J_bipush (v := nI 8) E dX3_init_61 (by decide +kernel) ?_
  refine G_int (N := 8) (o := o) (ci := 3) (q := 10) E dX3_init_63 dX3_init_65 wac_int (by decide) fs_X3_33 ff_X3_10 rfl (by omega) (Nat.le_of_ble_eq_true rfl) (BS_int (by omega) s8 z8) (Nat.le_of_ble_eq_true rfl) (Nat.le_of_ble_eq_true rfl) ?_
  refine J_aload_n E dX3_init_68 rfl ?_
  refine J_bipush (v := nI 8) E dX3_init_69 (by decide +kernel) ?_
  refine G_int (N := 8) (o := o) (ci := 3) (q := 11) E dX3_init_71 dX3_init_73 wac_int (by decide) fs_X3_36 ff_X3_11 rfl (by omega) (Nat.le_of_ble_eq_true rfl) (BS_int (by omega) s9 z9) (Nat.le_of_ble_eq_true rfl) (Nat.le_of_ble_eq_true rfl) ?_
  refine J_aload_n E dX3_init_76 rfl ?_
  refine J_bipush (v := nI 8) E dX3_init_77 (by decide +kernel) ?_
  refine G_int (N := 8) (o := o) (ci := 3) (q := 12) E dX3_init_79 dX3_init_81 wac_int (by decide) fs_X3_39 ff_X3_12 rfl (by omega) (Nat.le_of_ble_eq_true rfl) (BS_int (by omega) s10 z10) (Nat.le_of_ble_eq_true rfl) (Nat.le_of_ble_eq_true rfl) ?_
  refine J_aload_n E dX3_init_84 rfl ?_
  refine J_iconst (v := nI 2) E dX3_init_85 (by decide +kernel) ?_
  refine G_int (N := 2) (o := o) (ci := 3) (q := 13) E dX3_init_86 dX3_init_88 wac_int (by decide) fs_X3_42 ff_X3_13 rfl (by omega) (Nat.le_of_ble_eq_true rfl) (BS_int (by omega) s11 z11) (Nat.le_of_ble_eq_true rfl) (Nat.le_of_ble_eq_true rfl) ?_
  refine J_aload_n E dX3_init_91 rfl ?_
  refine J_bipush (v := nI 12) E dX3_init_92 (by decide +kernel) ?_
  refine G_int (N := 12) (o := o) (ci := 3) (q := 14) E dX3_init_94 dX3_init_96 wac_int (by decide) fs_X3_45 ff_X3_14 rfl (by omega) (Nat.le_of_ble_eq_true rfl) (BS_int (by omega) s12 z12) (Nat.le_of_ble_eq_true rfl) (Nat.le_of_ble_eq_true rfl) ?_
  refine J_vret E hB dX3_init_99 rfl (K_out hs ?_)
  simp only [fieldsOf, y0, y3, y8]
  rfl
theorem i_X9 {Z : ZT} {μ : Mu} {M : Mem} {o : Nat} (ho : o = 31) (hs : SH o = .inl 9) (hM : M o = .inr (9, [.null, .int 0, .int 0, .null, .null, .int 0])) (s1 : SH (o + 1) = .inr (0, 300)) (z1 : μ (o + 1) = fun _ => 0) (s2 : SH (o + 2) = .inr (0, 50)) (z2 : μ (o + 2) = fun _ => 0) (s3 : SH (o + 3) = .inr (0, 250)) (z3 : μ (o + 3) = fun _ => 0) (y1 : μ o 1 = 0) (y2 : μ o 2 = 0) (y5 : μ o 5 = 0) : Ctr Z mX9_init [.ref (Z.2.2.1 + o)] (o + 1) (o + 1 + 3) 600 M (PK Z μ M o (o + 1 + 3)) := by
  refine CtrK (by decide +kernel) (Nat.le_of_ble_eq_true rfl) rfl fun X E hB => ?_
  refine K_in (μ := μ) hM ?_
  refine J_aload_n E dX9_init_0 rfl ?_
  refine J_oinit (o := o) E dX9_init_1 w1_130 w1_27 w1_28 (Nat.le_of_ble_eq_true rfl) (Nat.le_of_ble_eq_true rfl) ?_
  refine J_aload_n E dX9_init_4 rfl ?_
  refine J_sipush (v := nI 300) E dX9_init_5 (by decide +kernel) ?_
  refine G_int (N := 300) (o := o) (ci := 9) (q := 0) E dX9_init_8 dX9_init_10 wac_int (by decide) fs_X9_9 ff_X9_0 rfl (by omega) (Nat.le_of_ble_eq_true rfl) (BS_int (by omega) s1 z1) (Nat.le_of_ble_eq_true rfl) (Nat.le_of_ble_eq_true rfl) ?_
  refine J_aload_n E dX9_init_13 rfl ?_
  refine J_bipush (v := nI 50) E dX9_init_14 (by decide +kernel) ?_
  refine G_int (N := 50) (o := o) (ci := 9) (q := 3) E dX9_init_16 dX9_init_18 wac_int (by decide) fs_X9_15 ff_X9_3 rfl (by omega) (Nat.le_of_ble_eq_true rfl) (BS_int (by omega) s2 z2) (Nat.le_of_ble_eq_true rfl) (Nat.le_of_ble_eq_true rfl) ?_
  refine J_aload_n E dX9_init_21 rfl ?_
  refine J_sipush (v := nI 250) E dX9_init_22 (by decide +kernel) ?_
  refine G_int (N := 250) (o := o) (ci := 9) (q := 4) E dX9_init_25 dX9_init_27 wac_int (by decide) fs_X9_18 ff_X9_4 rfl (by omega) (Nat.le_of_ble_eq_true rfl) (BS_int (by omega) s3 z3) (Nat.le_of_ble_eq_true rfl) (Nat.le_of_ble_eq_true rfl) ?_
  refine J_vret E hB dX9_init_30 rfl (K_out hs ?_)
  simp only [fieldsOf, y1, y2, y5]
  subst ho; rfl
theorem i_X10 {Z : ZT} {μ : Mu} {M : Mem} {o : Nat} (ho : o = 73) (hs : SH o = .inl 10) (hM : M o = .inr (10, [.null, .null, .null, .null, .null])) (s1 : SH (o + 1) = .inr (0, 100)) (z1 : μ (o + 1) = fun _ => 0) (s2 : SH (o + 2) = .inr (0, 100)) (z2 : μ (o + 2) = fun _ => 0) (s3 : SH (o + 3) = .inr (0, 800)) (z3 : μ (o + 3) = fun _ => 0) (s4 : SH (o + 4) = .inr (0, 800)) (z4 : μ (o + 4) = fun _ => 0)  : Ctr Z mX10_init [.ref (Z.2.2.1 + o), .ref (Z.2.2.1 + 1)] (o + 1) (o + 1 + 4) 1800 M (PK Z μ M o (o + 1 + 4)) := by
  refine CtrK (by decide +kernel) (Nat.le_of_ble_eq_true rfl) rfl fun X E hB => ?_
  refine K_in (μ := μ) hM ?_
  refine J_aload_n E dX10_init_0 rfl ?_
  refine J_oinit (o := o) E dX10_init_1 w1_159 w1_27 w1_28 (Nat.le_of_ble_eq_true rfl) (Nat.le_of_ble_eq_true rfl) ?_
  refine J_aload_n E dX10_init_4 rfl ?_
  refine J_bipush (v := nI 100) E dX10_init_5 (by decide +kernel) ?_
  refine G_int (N := 100) (o := o) (ci := 10) (q := 1) E dX10_init_7 dX10_init_9 wac_int (by decide) fs_X10_9 ff_X10_1 rfl (by omega) (Nat.le_of_ble_eq_true rfl) (BS_int (by omega) s1 z1) (Nat.le_of_ble_eq_true rfl) (Nat.le_of_ble_eq_true rfl) ?_
  refine J_aload_n E dX10_init_12 rfl ?_
  refine J_bipush (v := nI 100) E dX10_init_13 (by decide +kernel) ?_
  refine G_int (N := 100) (o := o) (ci := 10) (q := 2) E dX10_init_15 dX10_init_17 wac_int (by decide) fs_X10_15 ff_X10_2 rfl (by omega) (Nat.le_of_ble_eq_true rfl) (BS_int (by omega) s2 z2) (Nat.le_of_ble_eq_true rfl) (Nat.le_of_ble_eq_true rfl) ?_
  refine J_aload_n E dX10_init_20 rfl ?_
  refine J_sipush (v := nI 800) E dX10_init_21 (by decide +kernel) ?_
  refine G_int (N := 800) (o := o) (ci := 10) (q := 3) E dX10_init_24 dX10_init_26 wac_int (by decide) fs_X10_18 ff_X10_3 rfl (by omega) (Nat.le_of_ble_eq_true rfl) (BS_int (by omega) s3 z3) (Nat.le_of_ble_eq_true rfl) (Nat.le_of_ble_eq_true rfl) ?_
  refine J_aload_n E dX10_init_29 rfl ?_
  refine J_sipush (v := nI 800) E dX10_init_30 (by decide +kernel) ?_
  refine G_int (N := 800) (o := o) (ci := 10) (q := 4) E dX10_init_33 dX10_init_35 wac_int (by decide) fs_X10_21 ff_X10_4 rfl (by omega) (Nat.le_of_ble_eq_true rfl) (BS_int (by omega) s4 z4) (Nat.le_of_ble_eq_true rfl) (Nat.le_of_ble_eq_true rfl) ?_
  refine J_aload_n E dX10_init_38 rfl ?_
  refine J_aload_n E dX10_init_39 rfl ?_
  refine J_putK (o := o) (ci := 10) (q := 0) E dX10_init_40 fs_X10_24 ff_X10_0 rfl (by omega) (Nat.le_of_ble_eq_true rfl) ?_
  refine J_vret E hB dX10_init_43 rfl (K_out hs ?_)
  simp only [fieldsOf, if_true]
  subst ho; rfl
theorem i_X4 {Z : ZT} {μ : Mu} {M : Mem} {o : Nat} (hs : SH o = .inl 4) (hM : M o = .inr (4, [.null, .null, .null, .int 0, .int 0, .null, .null, .null, .null, .null, .null, .int 0, .int 0])) (s1 : SH (o + 1) = .inr (0, 6)) (z1 : μ (o + 1) = fun _ => 0) (s2 : SH (o + 2) = .inr (0, 6)) (z2 : μ (o + 2) = fun _ => 0) (s3 : SH (o + 3) = .inr (0, 6)) (z3 : μ (o + 3) = fun _ => 0) (s4 : SH (o + 4) = .inr (0, 6)) (z4 : μ (o + 4) = fun _ => 0) (s5 : SH (o + 5) = .inr (0, 6)) (z5 : μ (o + 5) = fun _ => 0) (s6 : SH (o + 6) = .inr (0, 6)) (z6 : μ (o + 6) = fun _ => 0) (y3 : μ o 3 = 0) (y4 : μ o 4 = 0) (y11 : μ o 11 = 0) (y12 : μ o 12 = 0) : Ctr Z mX4_init [.ref (Z.2.2.1 + o), .ref (Z.2.2.1 + 1), .ref (Z.2.2.1 + 27), .ref (Z.2.2.1 + 73)] (o + 1) (o + 1 + 6) 36 M (PK Z μ M o (o + 1 + 6)) := by
  refine CtrK (by decide +kernel) (Nat.le_of_ble_eq_true rfl) rfl fun X E hB => ?_
  refine K_in (μ := μ) hM ?_
  refine J_aload_n E dX4_init_0 rfl ?_
  refine J_oinit (o := o) E dX4_init_1 w1_182 w1_27 w1_28 (Nat.le_of_ble_eq_true rfl) (Nat.le_of_ble_eq_true rfl) ?_
  refine J_aload_n E dX4_init_4 rfl ?_
  refine J_bipush (v := nI 6) E dX4_init_5 (by decide +kernel) ?_
  refine G_int (N := 6) (o := o) (ci := 4) (q := 5) E dX4_init_7 dX4_init_9 wac_int (by decide) fs_X4_9 ff_X4_5 rfl (by omega) (Nat.le_of_ble_eq_true rfl) (BS_int (by omega) s1 z1) (Nat.le_of_ble_eq_true rfl) (Nat.le_of_ble_eq_true rfl) ?_
  refine J_aload_n E dX4_init_12 rfl ?_
  refine J_bipush (v := nI 6) E dX4_init_13 (by decide +kernel) ?_
  refine G_int (N := 6) (o := o) (ci := 4) (q := 6) E dX4_init_15 dX4_init_17 wac_int (by decide) fs_X4_15 ff_X4_6 rfl (by omega) (Nat.le_of_ble_eq_true rfl) (BS_int (by omega) s2 z2) (Nat.le_of_ble_eq_true rfl) (Nat.le_of_ble_eq_true rfl) ?_
  refine J_aload_n E dX4_init_20 rfl ?_
  refine J_bipush (v := nI 6) E dX4_init_21 (by decide +kernel) ?_
  refine G_int (N := 6) (o := o) (ci := 4) (q := 7) E dX4_init_23 dX4_init_25 wac_int (by decide) fs_X4_18 ff_X4_7 rfl (by omega) (Nat.le_of_ble_eq_true rfl) (BS_int (by omega) s3 z3) (Nat.le_of_ble_eq_true rfl) (Nat.le_of_ble_eq_true rfl) ?_
  refine J_aload_n E dX4_init_28 rfl ?_
  refine J_bipush (v := nI 6) E dX4_init_29 (by decide +kernel) ?_
  refine G_int (N := 6) (o := o) (ci := 4) (q := 8) E dX4_init_31 dX4_init_33 wac_int (by decide) fs_X4_21 ff_X4_8 rfl (by omega) (Nat.le_of_ble_eq_true rfl) (BS_int (by omega) s4 z4) (Nat.le_of_ble_eq_true rfl) (Nat.le_of_ble_eq_true rfl) ?_
  refine J_aload_n E dX4_init_36 rfl ?_
  refine J_bipush (v := nI 6) E dX4_init_37 (by decide +kernel) ?_
  refine G_int (N := 6) (o := o) (ci := 4) (q := 9) E dX4_init_39 dX4_init_41 wac_int (by decide) fs_X4_24 ff_X4_9 rfl (by omega) (Nat.le_of_ble_eq_true rfl) (BS_int (by omega) s5 z5) (Nat.le_of_ble_eq_true rfl) (Nat.le_of_ble_eq_true rfl) ?_
  refine J_aload_n E dX4_init_44 rfl ?_
  refine J_bipush (v := nI 6) E dX4_init_45 (by decide +kernel) ?_
  refine G_int (N := 6) (o := o) (ci := 4) (q := 10) E dX4_init_47 dX4_init_49 wac_int (by decide) fs_X4_27 ff_X4_10 rfl (by omega) (Nat.le_of_ble_eq_true rfl) (BS_int (by omega) s6 z6) (Nat.le_of_ble_eq_true rfl) (Nat.le_of_ble_eq_true rfl) ?_
  refine J_aload_n E dX4_init_52 rfl ?_
  refine J_aload_n E dX4_init_53 rfl ?_
  refine J_putK (o := o) (ci := 4) (q := 0) E dX4_init_54 fs_X4_30 ff_X4_0 rfl (by omega) (Nat.le_of_ble_eq_true rfl) ?_
  refine J_aload_n E dX4_init_57 rfl ?_
  refine J_aload_n E dX4_init_58 rfl ?_
  refine J_putK (o := o) (ci := 4) (q := 1) E dX4_init_59 fs_X4_34 ff_X4_1 rfl (by omega) (Nat.le_of_ble_eq_true rfl) ?_
  refine J_aload_n E dX4_init_62 rfl ?_
  refine J_aload_n E dX4_init_63 rfl ?_
  refine J_putK (o := o) (ci := 4) (q := 2) E dX4_init_64 fs_X4_38 ff_X4_2 rfl (by omega) (Nat.le_of_ble_eq_true rfl) ?_
  refine J_vret E hB dX4_init_67 rfl (K_out hs ?_)
  simp only [fieldsOf, y3, y4, y11, y12]
  rfl
theorem i_X5 {Z : ZT} {μ : Mu} {M : Mem} (hz : ∀ a, 73 ≤ a → a ≠ 105 → μ a = fun _ => 0) (hM : M 92 = .inr (5, [.null, .null, .int 0, .null, .null, .null, .null, .null, .null])) : Ctr Z mX5_init [.ref (Z.2.2.1 + 92), .ref (Z.2.2.1 + 1), .ref (Z.2.2.1 + 27)] (92 + 1) (92 + 1 + 12) 156 M (PK Z μ M 92 (92 + 1 + 12)) := by
  refine CtrK (by decide +kernel) (Nat.le_of_ble_eq_true rfl) rfl fun X E hB => ?_
  refine K_in (μ := μ) hM ?_
  refine J_aload_n E dX5_init_0 rfl ?_
  refine J_oinit (o := 92) E dX5_init_1 w2_9 w1_27 w1_28 (Nat.le_of_ble_eq_true rfl) (Nat.le_of_ble_eq_true rfl) ?_
  refine J_aload_n E dX5_init_4 rfl ?_
  refine J_new (ci := 0) (fs := [.null, .int 0]) E dX5_init_5 rfl uX0 tyX0 tyX0_ok w2_10 w2_11 w1_8 df_X0 (Nat.le_of_ble_eq_true rfl) (Nat.le_of_ble_eq_true rfl) ?_
  refine J_dup E dX5_init_8 rfl ?_
  refine G_callN (μ' := μ) (As := []) (d := 1) (ms := 24) (o := 92) (ci := 5) (q := 3) E dX5_init_9 dX5_init_12 (i_X0 sh93 va_up_s sh94 (hz 94 (by decide) (by decide)) (by rw [(hz 93 (by decide) (by decide))])) kX0_init ⟨(Nat.le_of_ble_eq_true rfl), (Nat.le_of_ble_eq_true rfl)⟩ rfl (by decide) w2_12 w2_13 rfl rfl fs_X5_12 ff_X5_3 rfl (Nat.le_of_ble_eq_true rfl) (Nat.le_of_ble_eq_true rfl) (fun a h _ => BS_ge (Nat.le_trans (Nat.le_of_ble_eq_true rfl) h)) (Nat.le_of_ble_eq_true rfl) (Nat.le_of_ble_eq_true rfl) ?_
  refine J_aload_n E dX5_init_15 rfl ?_
  refine J_new (ci := 0) (fs := [.null, .int 0]) E dX5_init_16 rfl uX0 tyX0 tyX0_ok w2_10 w2_11 w1_8 df_X0 (Nat.le_of_ble_eq_true rfl) (Nat.le_of_ble_eq_true rfl) ?_
  refine J_dup E dX5_init_19 rfl ?_
  refine G_callN (μ' := μ) (As := []) (d := 1) (ms := 24) (o := 92) (ci := 5) (q := 4) E dX5_init_20 dX5_init_23 (i_X0 sh95 va_up_s sh96 (hz 96 (by decide) (by decide)) (by rw [(hz 95 (by decide) (by decide))])) kX0_init ⟨(Nat.le_of_ble_eq_true rfl), (Nat.le_of_ble_eq_true rfl)⟩ rfl (by decide) w2_12 w2_13 rfl rfl fs_X5_18 ff_X5_4 rfl (Nat.le_of_ble_eq_true rfl) (Nat.le_of_ble_eq_true rfl) (fun a h _ => BS_ge (Nat.le_trans (Nat.le_of_ble_eq_true rfl) h)) (Nat.le_of_ble_eq_true rfl) (Nat.le_of_ble_eq_true rfl) ?_
  refine J_aload_n E dX5_init_26 rfl ?_
  refine J_new (ci := 0) (fs := [.null, .int 0]) E dX5_init_27 rfl uX0 tyX0 tyX0_ok w2_10 w2_11 w1_8 df_X0 (Nat.le_of_ble_eq_true rfl) (Nat.le_of_ble_eq_true rfl) ?_
  refine J_dup E dX5_init_30 rfl ?_
  refine G_callN (μ' := μ) (As := []) (d := 1) (ms := 24) (o := 92) (ci := 5) (q := 5) E dX5_init_31 dX5_init_34 (i_X0 sh97 va_up_s sh98 (hz 98 (by decide) (by decide)) (by rw [(hz 97 (by decide) (by decide))])) kX0_init ⟨(Nat.le_of_ble_eq_true rfl), (Nat.le_of_ble_eq_true rfl)⟩ rfl (by decide) w2_12 w2_13 rfl rfl fs_X5_21 ff_X5_5 rfl (Nat.le_of_ble_eq_true rfl) (Nat.le_of_ble_eq_true rfl) (fun a h _ => BS_ge (Nat.le_trans (Nat.le_of_ble_eq_true rfl) h)) (Nat.le_of_ble_eq_true rfl) (Nat.le_of_ble_eq_true rfl) ?_
  refine J_aload_n E dX5_init_37 rfl ?_
  refine J_new (ci := 0) (fs := [.null, .int 0]) E dX5_init_38 rfl uX0 tyX0 tyX0_ok w2_10 w2_11 w1_8 df_X0 (Nat.le_of_ble_eq_true rfl) (Nat.le_of_ble_eq_true rfl) ?_
  refine J_dup E dX5_init_41 rfl ?_
  refine G_callN (μ' := μ) (As := []) (d := 1) (ms := 24) (o := 92) (ci := 5) (q := 6) E dX5_init_42 dX5_init_45 (i_X0 sh99 va_up_s sh100 (hz 100 (by decide) (by decide)) (by rw [(hz 99 (by decide) (by decide))])) kX0_init ⟨(Nat.le_of_ble_eq_true rfl), (Nat.le_of_ble_eq_true rfl)⟩ rfl (by decide) w2_12 w2_13 rfl rfl fs_X5_24 ff_X5_6 rfl (Nat.le_of_ble_eq_true rfl) (Nat.le_of_ble_eq_true rfl) (fun a h _ => BS_ge (Nat.le_trans (Nat.le_of_ble_eq_true rfl) h)) (Nat.le_of_ble_eq_true rfl) (Nat.le_of_ble_eq_true rfl) ?_
  refine J_aload_n E dX5_init_48 rfl ?_
  refine J_new (ci := 0) (fs := [.null, .int 0]) E dX5_init_49 rfl uX0 tyX0 tyX0_ok w2_10 w2_11 w1_8 df_X0 (Nat.le_of_ble_eq_true rfl) (Nat.le_of_ble_eq_true rfl) ?_
  refine J_dup E dX5_init_52 rfl ?_
  refine G_callN (μ' := μ) (As := []) (d := 1) (ms := 24) (o := 92) (ci := 5) (q := 7) E dX5_init_53 dX5_init_56 (i_X0 sh101 va_up_s sh102 (hz 102 (by decide) (by decide)) (by rw [(hz 101 (by decide) (by decide))])) kX0_init ⟨(Nat.le_of_ble_eq_true rfl), (Nat.le_of_ble_eq_true rfl)⟩ rfl (by decide) w2_12 w2_13 rfl rfl fs_X5_27 ff_X5_7 rfl (Nat.le_of_ble_eq_true rfl) (Nat.le_of_ble_eq_true rfl) (fun a h _ => BS_ge (Nat.le_trans (Nat.le_of_ble_eq_true rfl) h)) (Nat.le_of_ble_eq_true rfl) (Nat.le_of_ble_eq_true rfl) ?_
  refine J_aload_n E dX5_init_59 rfl ?_
  refine J_new (ci := 0) (fs := [.null, .int 0]) E dX5_init_60 rfl uX0 tyX0 tyX0_ok w2_10 w2_11 w1_8 df_X0 (Nat.le_of_ble_eq_true rfl) (Nat.le_of_ble_eq_true rfl) ?_
  refine J_dup E dX5_init_63 rfl ?_
  refine G_callN (μ' := μ) (As := []) (d := 1) (ms := 24) (o := 92) (ci := 5) (q := 8) E dX5_init_64 dX5_init_67 (i_X0 sh103 va_up_s sh104 (hz 104 (by decide) (by decide)) (by rw [(hz 103 (by decide) (by decide))])) kX0_init ⟨(Nat.le_of_ble_eq_true rfl), (Nat.le_of_ble_eq_true rfl)⟩ rfl (by decide) w2_12 w2_13 rfl rfl fs_X5_30 ff_X5_8 rfl (Nat.le_of_ble_eq_true rfl) (Nat.le_of_ble_eq_true rfl) (fun a h _ => BS_ge (Nat.le_trans (Nat.le_of_ble_eq_true rfl) h)) (Nat.le_of_ble_eq_true rfl) (Nat.le_of_ble_eq_true rfl) ?_
  refine J_aload_n E dX5_init_70 rfl ?_
  refine J_aload_n E dX5_init_71 rfl ?_
  refine J_putK (o := 92) (ci := 5) (q := 0) E dX5_init_72 fs_X5_33 ff_X5_0 rfl (Nat.le_of_ble_eq_true rfl) (Nat.le_of_ble_eq_true rfl) ?_
  refine J_aload_n E dX5_init_75 rfl ?_
  refine J_aload_n E dX5_init_76 rfl ?_
  refine J_putK (o := 92) (ci := 5) (q := 1) E dX5_init_77 fs_X5_37 ff_X5_1 rfl (Nat.le_of_ble_eq_true rfl) (Nat.le_of_ble_eq_true rfl) ?_
  refine J_vret E hB dX5_init_80 rfl (K_out sh92 ?_)
  rw [hz 92 (by decide) (by decide)]
  rfl
theorem i_X7 {Z : ZT} {μ : Mu} {M : Mem} (hz : ∀ a, 73 ≤ a → a ≠ 105 → μ a = fun _ => 0) (hM : M 273 = .inr (7, [.null, .null, .int 0, .null, .null, .null, .null, .null])) : Ctr Z mX7_init [.ref (Z.2.2.1 + 273), .ref (Z.2.2.1 + 92)] (273 + 1) (273 + 1 + 11) 136 M (PK Z μ M 273 (273 + 1 + 11)) := by
  refine CtrK (by decide +kernel) (Nat.le_of_ble_eq_true rfl) rfl fun X E hB => ?_
  refine K_in (μ := μ) hM ?_
  refine J_aload_n E dX7_init_0 rfl ?_
  refine J_oinit (o := 273) E dX7_init_1 w2_93 w1_27 w1_28 (Nat.le_of_ble_eq_true rfl) (Nat.le_of_ble_eq_true rfl) ?_
  refine J_aload_n E dX7_init_4 rfl ?_
  refine J_bipush (v := nI 6) E dX7_init_5 (by decide +kernel) ?_
  refine G_int (N := 6) (o := 273) (ci := 7) (q := 1) E dX7_init_7 dX7_init_9 wac_int (by decide) fs_X7_9 ff_X7_1 rfl (Nat.le_of_ble_eq_true rfl) (Nat.le_of_ble_eq_true rfl) (BS_int (Nat.le_of_ble_eq_true rfl) sh274 (hz 274 (by decide) (by decide))) (Nat.le_of_ble_eq_true rfl) (Nat.le_of_ble_eq_true rfl) ?_
  refine J_aload_n E dX7_init_12 rfl ?_
  refine J_new (ci := 0) (fs := [.null, .int 0]) E dX7_init_13 rfl uX0 tyX0 tyX0_ok w2_94 w2_11 w1_8 df_X0 (Nat.le_of_ble_eq_true rfl) (Nat.le_of_ble_eq_true rfl) ?_
  refine J_dup E dX7_init_16 rfl ?_
  refine G_callN (μ' := μ) (As := []) (d := 1) (ms := 24) (o := 273) (ci := 7) (q := 3) E dX7_init_17 dX7_init_20 (i_X0 sh275 va_up_s sh276 (hz 276 (by decide) (by decide)) (by rw [(hz 275 (by decide) (by decide))])) kX0_init ⟨(Nat.le_of_ble_eq_true rfl), (Nat.le_of_ble_eq_true rfl)⟩ rfl (by decide) w2_95 w2_13 rfl rfl fs_X7_18 ff_X7_3 rfl (Nat.le_of_ble_eq_true rfl) (Nat.le_of_ble_eq_true rfl) (fun a h _ => BS_ge (Nat.le_trans (Nat.le_of_ble_eq_true rfl) h)) (Nat.le_of_ble_eq_true rfl) (Nat.le_of_ble_eq_true rfl) ?_
  refine J_aload_n E dX7_init_23 rfl ?_
  refine J_new (ci := 0) (fs := [.null, .int 0]) E dX7_init_24 rfl uX0 tyX0 tyX0_ok w2_94 w2_11 w1_8 df_X0 (Nat.le_of_ble_eq_true rfl) (Nat.le_of_ble_eq_true rfl) ?_
  refine J_dup E dX7_init_27 rfl ?_
  refine G_callN (μ' := μ) (As := []) (d := 1) (ms := 24) (o := 273) (ci := 7) (q := 4) E dX7_init_28 dX7_init_31 (i_X0 sh277 va_up_s sh278 (hz 278 (by decide) (by decide)) (by rw [(hz 277 (by decide) (by decide))])) kX0_init ⟨(Nat.le_of_ble_eq_true rfl), (Nat.le_of_ble_eq_true rfl)⟩ rfl (by decide) w2_95 w2_13 rfl rfl fs_X7_22 ff_X7_4 rfl (Nat.le_of_ble_eq_true rfl) (Nat.le_of_ble_eq_true rfl) (fun a h _ => BS_ge (Nat.le_trans (Nat.le_of_ble_eq_true rfl) h)) (Nat.le_of_ble_eq_true rfl) (Nat.le_of_ble_eq_true rfl) ?_
  refine J_aload_n E dX7_init_34 rfl ?_
  refine J_new (ci := 0) (fs := [.null, .int 0]) E dX7_init_35 rfl uX0 tyX0 tyX0_ok w2_94 w2_11 w1_8 df_X0 (Nat.le_of_ble_eq_true rfl) (Nat.le_of_ble_eq_true rfl) ?_
  refine J_dup E dX7_init_38 rfl ?_
  refine G_callN (μ' := μ) (As := []) (d := 1) (ms := 24) (o := 273) (ci := 7) (q := 5) E dX7_init_39 dX7_init_42 (i_X0 sh279 va_up_s sh280 (hz 280 (by decide) (by decide)) (by rw [(hz 279 (by decide) (by decide))])) kX0_init ⟨(Nat.le_of_ble_eq_true rfl), (Nat.le_of_ble_eq_true rfl)⟩ rfl (by decide) w2_95 w2_13 rfl rfl fs_X7_25 ff_X7_5 rfl (Nat.le_of_ble_eq_true rfl) (Nat.le_of_ble_eq_true rfl) (fun a h _ => BS_ge (Nat.le_trans (Nat.le_of_ble_eq_true rfl) h)) (Nat.le_of_ble_eq_true rfl) (Nat.le_of_ble_eq_true rfl) ?_
  refine J_aload_n E dX7_init_45 rfl ?_
  refine J_new (ci := 0) (fs := [.null, .int 0]) E dX7_init_46 rfl uX0 tyX0 tyX0_ok w2_94 w2_11 w1_8 df_X0 (Nat.le_of_ble_eq_true rfl) (Nat.le_of_ble_eq_true rfl) ?_
  refine J_dup E dX7_init_49 rfl ?_
  refine G_callN (μ' := μ) (As := []) (d := 1) (ms := 24) (o := 273) (ci := 7) (q := 6) E dX7_init_50 dX7_init_53 (i_X0 sh281 va_up_s sh282 (hz 282 (by decide) (by decide)) (by rw [(hz 281 (by decide) (by decide))])) kX0_init ⟨(Nat.le_of_ble_eq_true rfl), (Nat.le_of_ble_eq_true rfl)⟩ rfl (by decide) w2_95 w2_13 rfl rfl fs_X7_28 ff_X7_6 rfl (Nat.le_of_ble_eq_true rfl) (Nat.le_of_ble_eq_true rfl) (fun a h _ => BS_ge (Nat.le_trans (Nat.le_of_ble_eq_true rfl) h)) (Nat.le_of_ble_eq_true rfl) (Nat.le_of_ble_eq_true rfl) ?_
  refine J_aload_n E dX7_init_56 rfl ?_
  refine J_new (ci := 0) (fs := [.null, .int 0]) E dX7_init_57 rfl uX0 tyX0 tyX0_ok w2_94 w2_11 w1_8 df_X0 (Nat.le_of_ble_eq_true rfl) (Nat.le_of_ble_eq_true rfl) ?_
  refine J_dup E dX7_init_60 rfl ?_
  refine G_callN (μ' := μ) (As := []) (d := 1) (ms := 24) (o := 273) (ci := 7) (q := 7) E dX7_init_61 dX7_init_64 (i_X0 sh283 va_up_s sh284 (hz 284 (by decide) (by decide)) (by rw [(hz 283 (by decide) (by decide))])) kX0_init ⟨(Nat.le_of_ble_eq_true rfl), (Nat.le_of_ble_eq_true rfl)⟩ rfl (by decide) w2_95 w2_13 rfl rfl fs_X7_31 ff_X7_7 rfl (Nat.le_of_ble_eq_true rfl) (Nat.le_of_ble_eq_true rfl) (fun a h _ => BS_ge (Nat.le_trans (Nat.le_of_ble_eq_true rfl) h)) (Nat.le_of_ble_eq_true rfl) (Nat.le_of_ble_eq_true rfl) ?_
  refine J_aload_n E dX7_init_67 rfl ?_
  refine J_aload_n E dX7_init_68 rfl ?_
  refine J_putK (o := 273) (ci := 7) (q := 0) E dX7_init_69 fs_X7_34 ff_X7_0 rfl (Nat.le_of_ble_eq_true rfl) (Nat.le_of_ble_eq_true rfl) ?_
  refine J_vret E hB dX7_init_72 rfl (K_out sh273 ?_)
  rw [hz 273 (by decide) (by decide)]
  rfl
/-- the numbers with which notes begin -/
def muN (μ : Mu) (o : Nat) : Mu := (stu (stu (stu (stu (stu μ (o + 1) 0 (nI 4)) (o + 1) 1 (nI 30)) (o + 1) 2 (nI 1)) (o + 1) 3 (nI 0)) (o + 1) 4 (nI 0))
theorem i_X6 {Z : ZT} {μ : Mu} {M : Mem} {o : Nat} (hs : SH o = .inl 6) (hM : M o = .inr (6, [.null, .int 0, .null, .null])) (s1 : SH (o + 1) = .inr (0, 5)) (s2 : SH (o + 2) = .inr (0, 20)) (s3 : SH (o + 3) = .inr (0, 20)) (z1 : μ (o + 1) = fun _ => 0) (z2 : μ (o + 2) = fun _ => 0) (z3 : μ (o + 3) = fun _ => 0) (y1 : μ o 1 = 0) : Ctr Z mX6_init [.ref (Z.2.2.1 + o)] (o + 1) (o + 1 + 3) 45 M (PK Z (muN μ o) M o (o + 1 + 3)) := by
  refine CtrK (by decide +kernel) (Nat.le_of_ble_eq_true rfl) rfl fun X E hB => ?_
  refine K_in (μ := μ) hM ?_
  refine J_aload_n E dX6_init_0 rfl ?_
  refine J_oinit (o := o) E dX6_init_1 w1_105 w1_27 w1_28 (Nat.le_of_ble_eq_true rfl) (Nat.le_of_ble_eq_true rfl) ?_
  refine J_aload_n E dX6_init_4 rfl ?_
  refine J_iconst (v := nI 5) E dX6_init_5 (by decide +kernel) ?_
  refine K_newi (N := 5) E dX6_init_6 wac_int (by decide) (by omega) (BS_int (by omega) s1 z1) (Nat.le_of_ble_eq_true rfl) (Nat.le_of_ble_eq_true rfl) ?_
  refine J_dup E dX6_init_8 rfl ?_
  refine J_iconst (v := nI 0) E dX6_init_9 (by decide +kernel) ?_
  refine J_iconst (v := nI 4) E dX6_init_10 (by decide +kernel) ?_
  refine G_ist (μ' := stu μ (o + 1) 0 (nI 4)) E dX6_init_11 s1 (by omega) (by omega) (by omega) (by decide) (by decide) rfl ?_
  refine J_dup E dX6_init_12 rfl ?_
  refine J_iconst (v := nI 1) E dX6_init_13 (by decide +kernel) ?_
  refine J_bipush (v := nI 30) E dX6_init_14 (by decide +kernel) ?_
  refine G_ist (μ' := stu (stu μ (o + 1) 0 (nI 4)) (o + 1) 1 (nI 30)) E dX6_init_16 s1 (by omega) (by omega) (by omega) (by decide) (by decide) rfl ?_
  refine J_dup E dX6_init_17 rfl ?_
  refine J_iconst (v := nI 2) E dX6_init_18 (by decide +kernel) ?_
  refine J_iconst (v := nI 1) E dX6_init_19 (by decide +kernel) ?_
  refine G_ist (μ' := stu (stu (stu μ (o + 1) 0 (nI 4)) (o + 1) 1 (nI 30)) (o + 1) 2 (nI 1)) E dX6_init_20 s1 (by omega) (by omega) (by omega) (by decide) (by decide) rfl ?_
  refine J_dup E dX6_init_21 rfl ?_
  refine J_iconst (v := nI 3) E dX6_init_22 (by decide +kernel) ?_
  refine J_iconst (v := nI 0) E dX6_init_23 (by decide +kernel) ?_
  refine G_ist (μ' := stu (stu (stu (stu μ (o + 1) 0 (nI 4)) (o + 1) 1 (nI 30)) (o + 1) 2 (nI 1)) (o + 1) 3 (nI 0)) E dX6_init_24 s1 (by omega) (by omega) (by omega) (by decide) (by decide) rfl ?_
  refine J_dup E dX6_init_25 rfl ?_
  refine J_iconst (v := nI 4) E dX6_init_26 (by decide +kernel) ?_
  refine J_iconst (v := nI 0) E dX6_init_27 (by decide +kernel) ?_
  refine G_ist (μ' := stu (stu (stu (stu (stu μ (o + 1) 0 (nI 4)) (o + 1) 1 (nI 30)) (o + 1) 2 (nI 1)) (o + 1) 3 (nI 0)) (o + 1) 4 (nI 0)) E dX6_init_28 s1 (by omega) (by omega) (by omega) (by decide) (by decide) rfl ?_
  refine J_putK (o := o) (ci := 6) (q := 0) E dX6_init_29 fs_X6_9 ff_X6_0 rfl (by omega) (Nat.le_of_ble_eq_true rfl) ?_
  refine J_aload_n E dX6_init_32 rfl ?_
  refine J_bipush (v := nI 20) E dX6_init_33 (by decide +kernel) ?_
  refine G_int (N := 20) (o := o) (ci := 6) (q := 2) E dX6_init_35 dX6_init_37 wac_int (by decide) fs_X6_15 ff_X6_2 rfl (by omega) (Nat.le_of_ble_eq_true rfl) (BS_int (by omega) s2 (by rw [stu_n (by omega), stu_n (by omega), stu_n (by omega), stu_n (by omega), stu_n (by omega)]; exact z2)) (Nat.le_of_ble_eq_true rfl) (Nat.le_of_ble_eq_true rfl) ?_
  refine J_aload_n E dX6_init_40 rfl ?_
  refine J_bipush (v := nI 20) E dX6_init_41 (by decide +kernel) ?_
  refine G_int (N := 20) (o := o) (ci := 6) (q := 3) E dX6_init_43 dX6_init_45 wac_int (by decide) fs_X6_18 ff_X6_3 rfl (by omega) (Nat.le_of_ble_eq_true rfl) (BS_int (by omega) s3 (by rw [stu_n (by omega), stu_n (by omega), stu_n (by omega), stu_n (by omega), stu_n (by omega)]; exact z3)) (Nat.le_of_ble_eq_true rfl) (Nat.le_of_ble_eq_true rfl) ?_
  refine J_vret E hB dX6_init_48 rfl (K_out (μ := muN μ o) hs ?_)
  have e : muN μ o o 1 = 0 := by unfold muN; rw [stu_n (by omega), stu_n (by omega), stu_n (by omega), stu_n (by omega), stu_n (by omega)]; exact y1
  simp only [fieldsOf, e]
  rfl
