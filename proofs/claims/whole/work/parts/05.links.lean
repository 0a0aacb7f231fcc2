set_option maxRecDepth 20000 in
theorem fl_0_11 : Cond.fieldLink RX0 11 (TX0 1).1 (TX0 1).2.1 (TX0 1).2.2.1 ∈ lw_g := lw_c1 170 rfl rfl
theorem fg_0_11 : xFL RX0 11 0 1 := ⟨RX0, TX0, 7, rfl, Nat.le_of_ble_eq_true rfl, igX0, fl_0_11⟩
set_option maxRecDepth 20000 in
theorem fl_0_15 : Cond.fieldLink RX0 15 (TX0 0).1 (TX0 0).2.1 (TX0 0).2.2.1 ∈ lw_g := lw_c1 169 rfl rfl
theorem fg_0_15 : xFL RX0 15 0 0 := ⟨RX0, TX0, 7, rfl, Nat.le_of_ble_eq_true rfl, igX0, fl_0_15⟩
set_option maxRecDepth 20000 in
theorem fl_0_19 : Cond.fieldLink RX0 19 (TX0 2).1 (TX0 2).2.1 (TX0 2).2.2.1 ∈ lw_g := lw_c1 171 rfl rfl
theorem fg_0_19 : xFL RX0 19 0 2 := ⟨RX0, TX0, 7, rfl, Nat.le_of_ble_eq_true rfl, igX0, fl_0_19⟩
theorem fp_0_19 : xFP RX0 19 0 2 .int := ⟨RX0, TX0, 7, tyX0, rfl, Nat.le_of_ble_eq_true rfl, igX0, fl_0_19, tyX0_ok, nmX0, rfl, tyX0_ok 2 (Nat.le_of_ble_eq_true rfl)⟩
set_option maxRecDepth 20000 in
theorem fl_0_23 : Cond.fieldLink RX0 23 (TX0 3).1 (TX0 3).2.1 (TX0 3).2.2.1 ∈ lw_g := lw_c1 173 rfl rfl
theorem fg_0_23 : xFL RX0 23 0 3 := ⟨RX0, TX0, 7, rfl, Nat.le_of_ble_eq_true rfl, igX0, fl_0_23⟩
theorem fp_0_23 : xFP RX0 23 0 3 .int := ⟨RX0, TX0, 7, tyX0, rfl, Nat.le_of_ble_eq_true rfl, igX0, fl_0_23, tyX0_ok, nmX0, rfl, tyX0_ok 3 (Nat.le_of_ble_eq_true rfl)⟩
set_option maxRecDepth 20000 in
theorem fl_0_26 : Cond.fieldLink RX0 26 (TX0 4).1 (TX0 4).2.1 (TX0 4).2.2.1 ∈ lw_g := lw_c1 174 rfl rfl
theorem fg_0_26 : xFL RX0 26 0 4 := ⟨RX0, TX0, 7, rfl, Nat.le_of_ble_eq_true rfl, igX0, fl_0_26⟩
theorem fp_0_26 : xFP RX0 26 0 4 .int := ⟨RX0, TX0, 7, tyX0, rfl, Nat.le_of_ble_eq_true rfl, igX0, fl_0_26, tyX0_ok, nmX0, rfl, tyX0_ok 4 (Nat.le_of_ble_eq_true rfl)⟩
set_option maxRecDepth 20000 in
theorem fl_0_29 : Cond.fieldLink RX0 29 (TX0 5).1 (TX0 5).2.1 (TX0 5).2.2.1 ∈ lw_g := lw_c1 175 rfl rfl
theorem fg_0_29 : xFL RX0 29 0 5 := ⟨RX0, TX0, 7, rfl, Nat.le_of_ble_eq_true rfl, igX0, fl_0_29⟩
theorem fp_0_29 : xFP RX0 29 0 5 .int := ⟨RX0, TX0, 7, tyX0, rfl, Nat.le_of_ble_eq_true rfl, igX0, fl_0_29, tyX0_ok, nmX0, rfl, tyX0_ok 5 (Nat.le_of_ble_eq_true rfl)⟩
set_option maxRecDepth 20000 in
theorem fl_0_32 : Cond.fieldLink RX0 32 (TX0 6).1 (TX0 6).2.1 (TX0 6).2.2.1 ∈ lw_g := lw_c1 176 rfl rfl
theorem fg_0_32 : xFL RX0 32 0 6 := ⟨RX0, TX0, 7, rfl, Nat.le_of_ble_eq_true rfl, igX0, fl_0_32⟩
theorem fp_0_32 : xFP RX0 32 0 6 .int := ⟨RX0, TX0, 7, tyX0, rfl, Nat.le_of_ble_eq_true rfl, igX0, fl_0_32, tyX0_ok, nmX0, rfl, tyX0_ok 6 (Nat.le_of_ble_eq_true rfl)⟩
set_option maxRecDepth 20000 in
theorem fl_0_40 : Cond.fieldLink RX0 40 (TX8 3).1 (TX8 3).2.1 (TX8 3).2.2.1 ∈ lw_g := lw_c1 39 rfl rfl
theorem fg_0_40 : xFL RX0 40 8 3 := ⟨RX8, TX8, 13, rfl, Nat.le_of_ble_eq_true rfl, igX8, fl_0_40⟩
set_option maxRecDepth 20000 in
theorem fl_0_58 : Cond.fieldLink RX0 58 (TX8 10).1 (TX8 10).2.1 (TX8 10).2.2.1 ∈ lw_g := lw_c1 63 rfl rfl
theorem fg_0_58 : xFL RX0 58 8 10 := ⟨RX8, TX8, 13, rfl, Nat.le_of_ble_eq_true rfl, igX8, fl_0_58⟩
set_option maxRecDepth 20000 in
theorem fl_0_76 : Cond.fieldLink RX0 76 (TX8 6).1 (TX8 6).2.1 (TX8 6).2.2.1 ∈ lw_g := lw_c1 54 rfl rfl
theorem fg_0_76 : xFL RX0 76 8 6 := ⟨RX8, TX8, 13, rfl, Nat.le_of_ble_eq_true rfl, igX8, fl_0_76⟩
set_option maxRecDepth 20000 in
theorem fl_1_11 : Cond.fieldLink RX1 11 (TX1 3).1 (TX1 3).2.1 (TX1 3).2.2.1 ∈ lw_g := lw_c1 202 rfl rfl
theorem fg_1_11 : xFL RX1 11 1 3 := ⟨RX1, TX1, 15, rfl, Nat.le_of_ble_eq_true rfl, igX1, fl_1_11⟩
set_option maxRecDepth 20000 in
theorem fl_1_17 : Cond.fieldLink RX1 17 (TX1 4).1 (TX1 4).2.1 (TX1 4).2.2.1 ∈ lw_g := lw_c1 204 rfl rfl
theorem fg_1_17 : xFL RX1 17 1 4 := ⟨RX1, TX1, 15, rfl, Nat.le_of_ble_eq_true rfl, igX1, fl_1_17⟩
set_option maxRecDepth 20000 in
theorem fl_1_20 : Cond.fieldLink RX1 20 (TX1 6).1 (TX1 6).2.1 (TX1 6).2.2.1 ∈ lw_g := lw_c1 208 rfl rfl
theorem fg_1_20 : xFL RX1 20 1 6 := ⟨RX1, TX1, 15, rfl, Nat.le_of_ble_eq_true rfl, igX1, fl_1_20⟩
set_option maxRecDepth 20000 in
theorem fl_1_23 : Cond.fieldLink RX1 23 (TX1 7).1 (TX1 7).2.1 (TX1 7).2.2.1 ∈ lw_g := lw_c1 210 rfl rfl
theorem fg_1_23 : xFL RX1 23 1 7 := ⟨RX1, TX1, 15, rfl, Nat.le_of_ble_eq_true rfl, igX1, fl_1_23⟩
set_option maxRecDepth 20000 in
theorem fl_1_26 : Cond.fieldLink RX1 26 (TX1 8).1 (TX1 8).2.1 (TX1 8).2.2.1 ∈ lw_g := lw_c1 212 rfl rfl
theorem fg_1_26 : xFL RX1 26 1 8 := ⟨RX1, TX1, 15, rfl, Nat.le_of_ble_eq_true rfl, igX1, fl_1_26⟩
set_option maxRecDepth 20000 in
theorem fl_1_29 : Cond.fieldLink RX1 29 (TX1 9).1 (TX1 9).2.1 (TX1 9).2.2.1 ∈ lw_g := lw_c1 213 rfl rfl
theorem fg_1_29 : xFL RX1 29 1 9 := ⟨RX1, TX1, 15, rfl, Nat.le_of_ble_eq_true rfl, igX1, fl_1_29⟩
set_option maxRecDepth 20000 in
theorem fl_1_32 : Cond.fieldLink RX1 32 (TX1 10).1 (TX1 10).2.1 (TX1 10).2.2.1 ∈ lw_g := lw_c1 214 rfl rfl
theorem fg_1_32 : xFL RX1 32 1 10 := ⟨RX1, TX1, 15, rfl, Nat.le_of_ble_eq_true rfl, igX1, fl_1_32⟩
set_option maxRecDepth 20000 in
theorem fl_1_35 : Cond.fieldLink RX1 35 (TX1 11).1 (TX1 11).2.1 (TX1 11).2.2.1 ∈ lw_g := lw_c1 215 rfl rfl
theorem fg_1_35 : xFL RX1 35 1 11 := ⟨RX1, TX1, 15, rfl, Nat.le_of_ble_eq_true rfl, igX1, fl_1_35⟩
set_option maxRecDepth 20000 in
theorem fl_1_38 : Cond.fieldLink RX1 38 (TX1 12).1 (TX1 12).2.1 (TX1 12).2.2.1 ∈ lw_g := lw_c1 216 rfl rfl
theorem fg_1_38 : xFL RX1 38 1 12 := ⟨RX1, TX1, 15, rfl, Nat.le_of_ble_eq_true rfl, igX1, fl_1_38⟩
set_option maxRecDepth 20000 in
theorem fl_1_41 : Cond.fieldLink RX1 41 (TX1 0).1 (TX1 0).2.1 (TX1 0).2.2.1 ∈ lw_g := lw_c1 198 rfl rfl
theorem fg_1_41 : xFL RX1 41 1 0 := ⟨RX1, TX1, 15, rfl, Nat.le_of_ble_eq_true rfl, igX1, fl_1_41⟩
set_option maxRecDepth 20000 in
theorem fl_1_45 : Cond.fieldLink RX1 45 (TX1 1).1 (TX1 1).2.1 (TX1 1).2.2.1 ∈ lw_g := lw_c1 199 rfl rfl
theorem fg_1_45 : xFL RX1 45 1 1 := ⟨RX1, TX1, 15, rfl, Nat.le_of_ble_eq_true rfl, igX1, fl_1_45⟩
set_option maxRecDepth 20000 in
theorem fl_1_49 : Cond.fieldLink RX1 49 (TX1 2).1 (TX1 2).2.1 (TX1 2).2.2.1 ∈ lw_g := lw_c1 200 rfl rfl
theorem fg_1_49 : xFL RX1 49 1 2 := ⟨RX1, TX1, 15, rfl, Nat.le_of_ble_eq_true rfl, igX1, fl_1_49⟩
theorem fp_1_49 : xFP RX1 49 1 2 .int := ⟨RX1, TX1, 15, tyX1, rfl, Nat.le_of_ble_eq_true rfl, igX1, fl_1_49, tyX1_ok, nmX1, rfl, tyX1_ok 2 (Nat.le_of_ble_eq_true rfl)⟩
set_option maxRecDepth 20000 in
theorem fl_1_53 : Cond.fieldLink RX1 53 (TX1 5).1 (TX1 5).2.1 (TX1 5).2.2.1 ∈ lw_g := lw_c1 206 rfl rfl
theorem fg_1_53 : xFL RX1 53 1 5 := ⟨RX1, TX1, 15, rfl, Nat.le_of_ble_eq_true rfl, igX1, fl_1_53⟩
theorem fp_1_53 : xFP RX1 53 1 5 .int := ⟨RX1, TX1, 15, tyX1, rfl, Nat.le_of_ble_eq_true rfl, igX1, fl_1_53, tyX1_ok, nmX1, rfl, tyX1_ok 5 (Nat.le_of_ble_eq_true rfl)⟩
set_option maxRecDepth 20000 in
theorem fl_1_59 : Cond.fieldLink RX1 59 (TX1 13).1 (TX1 13).2.1 (TX1 13).2.2.1 ∈ lw_g := lw_c1 217 rfl rfl
theorem fg_1_59 : xFL RX1 59 1 13 := ⟨RX1, TX1, 15, rfl, Nat.le_of_ble_eq_true rfl, igX1, fl_1_59⟩
theorem fp_1_59 : xFP RX1 59 1 13 .int := ⟨RX1, TX1, 15, tyX1, rfl, Nat.le_of_ble_eq_true rfl, igX1, fl_1_59, tyX1_ok, nmX1, rfl, tyX1_ok 13 (Nat.le_of_ble_eq_true rfl)⟩
set_option maxRecDepth 20000 in
theorem fl_1_62 : Cond.fieldLink RX1 62 (TX1 14).1 (TX1 14).2.1 (TX1 14).2.2.1 ∈ lw_g := lw_c1 218 rfl rfl
theorem fg_1_62 : xFL RX1 62 1 14 := ⟨RX1, TX1, 15, rfl, Nat.le_of_ble_eq_true rfl, igX1, fl_1_62⟩
theorem fp_1_62 : xFP RX1 62 1 14 .int := ⟨RX1, TX1, 15, tyX1, rfl, Nat.le_of_ble_eq_true rfl, igX1, fl_1_62, tyX1_ok, nmX1, rfl, tyX1_ok 14 (Nat.le_of_ble_eq_true rfl)⟩
set_option maxRecDepth 20000 in
theorem fl_1_65 : Cond.fieldLink RX1 65 (TX0 2).1 (TX0 2).2.1 (TX0 2).2.2.1 ∈ lw_g := lw_c1 172 rfl rfl
theorem fg_1_65 : xFL RX1 65 0 2 := ⟨RX0, TX0, 7, rfl, Nat.le_of_ble_eq_true rfl, igX0, fl_1_65⟩
set_option maxRecDepth 20000 in
theorem fl_1_92 : Cond.fieldLink RX1 92 (TX6 2).1 (TX6 2).2.1 (TX6 2).2.2.1 ∈ lw_g := lw_c1 116 rfl rfl
theorem fg_1_92 : xFL RX1 92 6 2 := ⟨RX6, TX6, 10, rfl, Nat.le_of_ble_eq_true rfl, igX6, fl_1_92⟩
set_option maxRecDepth 20000 in
theorem fl_1_97 : Cond.fieldLink RX1 97 (TX6 3).1 (TX6 3).2.1 (TX6 3).2.2.1 ∈ lw_g := lw_c1 120 rfl rfl
theorem fg_1_97 : xFL RX1 97 6 3 := ⟨RX6, TX6, 10, rfl, Nat.le_of_ble_eq_true rfl, igX6, fl_1_97⟩
set_option maxRecDepth 20000 in
theorem fl_1_120 : Cond.fieldLink RX1 120 (TX6 8).1 (TX6 8).2.1 (TX6 8).2.2.1 ∈ lw_g := lw_c1 138 rfl rfl
theorem fg_1_120 : xFL RX1 120 6 8 := ⟨RX6, TX6, 10, rfl, Nat.le_of_ble_eq_true rfl, igX6, fl_1_120⟩
set_option maxRecDepth 20000 in
theorem fl_2_15 : Cond.fieldLink RX2 15 (TX2 3).1 (TX2 3).2.1 (TX2 3).2.2.1 ∈ lw_g := lw_c2 113 rfl rfl
theorem fg_2_15 : xFL RX2 15 2 3 := ⟨RX2, TX2, 14, rfl, Nat.le_of_ble_eq_true rfl, igX2, fl_2_15⟩
set_option maxRecDepth 20000 in
theorem fl_2_19 : Cond.fieldLink RX2 19 (TX2 4).1 (TX2 4).2.1 (TX2 4).2.2.1 ∈ lw_g := lw_c2 114 rfl rfl
theorem fg_2_19 : xFL RX2 19 2 4 := ⟨RX2, TX2, 14, rfl, Nat.le_of_ble_eq_true rfl, igX2, fl_2_19⟩
set_option maxRecDepth 20000 in
theorem fl_2_22 : Cond.fieldLink RX2 22 (TX2 5).1 (TX2 5).2.1 (TX2 5).2.2.1 ∈ lw_g := lw_c2 115 rfl rfl
theorem fg_2_22 : xFL RX2 22 2 5 := ⟨RX2, TX2, 14, rfl, Nat.le_of_ble_eq_true rfl, igX2, fl_2_22⟩
set_option maxRecDepth 20000 in
theorem fl_2_25 : Cond.fieldLink RX2 25 (TX2 6).1 (TX2 6).2.1 (TX2 6).2.2.1 ∈ lw_g := lw_c2 116 rfl rfl
theorem fg_2_25 : xFL RX2 25 2 6 := ⟨RX2, TX2, 14, rfl, Nat.le_of_ble_eq_true rfl, igX2, fl_2_25⟩
set_option maxRecDepth 20000 in
theorem fl_2_29 : Cond.fieldLink RX2 29 (TX2 7).1 (TX2 7).2.1 (TX2 7).2.2.1 ∈ lw_g := lw_c2 117 rfl rfl
theorem fg_2_29 : xFL RX2 29 2 7 := ⟨RX2, TX2, 14, rfl, Nat.le_of_ble_eq_true rfl, igX2, fl_2_29⟩
set_option maxRecDepth 20000 in
theorem fl_2_32 : Cond.fieldLink RX2 32 (TX2 8).1 (TX2 8).2.1 (TX2 8).2.2.1 ∈ lw_g := lw_c2 118 rfl rfl
theorem fg_2_32 : xFL RX2 32 2 8 := ⟨RX2, TX2, 14, rfl, Nat.le_of_ble_eq_true rfl, igX2, fl_2_32⟩
set_option maxRecDepth 20000 in
theorem fl_2_35 : Cond.fieldLink RX2 35 (TX2 9).1 (TX2 9).2.1 (TX2 9).2.2.1 ∈ lw_g := lw_c2 119 rfl rfl
theorem fg_2_35 : xFL RX2 35 2 9 := ⟨RX2, TX2, 14, rfl, Nat.le_of_ble_eq_true rfl, igX2, fl_2_35⟩
set_option maxRecDepth 20000 in
theorem fl_2_38 : Cond.fieldLink RX2 38 (TX2 10).1 (TX2 10).2.1 (TX2 10).2.2.1 ∈ lw_g := lw_c2 120 rfl rfl
theorem fg_2_38 : xFL RX2 38 2 10 := ⟨RX2, TX2, 14, rfl, Nat.le_of_ble_eq_true rfl, igX2, fl_2_38⟩
set_option maxRecDepth 20000 in
theorem fl_2_41 : Cond.fieldLink RX2 41 (TX2 11).1 (TX2 11).2.1 (TX2 11).2.2.1 ∈ lw_g := lw_c2 121 rfl rfl
theorem fg_2_41 : xFL RX2 41 2 11 := ⟨RX2, TX2, 14, rfl, Nat.le_of_ble_eq_true rfl, igX2, fl_2_41⟩
set_option maxRecDepth 20000 in
theorem fl_2_44 : Cond.fieldLink RX2 44 (TX2 12).1 (TX2 12).2.1 (TX2 12).2.2.1 ∈ lw_g := lw_c2 122 rfl rfl
theorem fg_2_44 : xFL RX2 44 2 12 := ⟨RX2, TX2, 14, rfl, Nat.le_of_ble_eq_true rfl, igX2, fl_2_44⟩
set_option maxRecDepth 20000 in
theorem fl_2_47 : Cond.fieldLink RX2 47 (TX2 0).1 (TX2 0).2.1 (TX2 0).2.2.1 ∈ lw_g := lw_c2 110 rfl rfl
theorem fg_2_47 : xFL RX2 47 2 0 := ⟨RX2, TX2, 14, rfl, Nat.le_of_ble_eq_true rfl, igX2, fl_2_47⟩
set_option maxRecDepth 20000 in
theorem fl_2_51 : Cond.fieldLink RX2 51 (TX2 1).1 (TX2 1).2.1 (TX2 1).2.2.1 ∈ lw_g := lw_c2 111 rfl rfl
theorem fg_2_51 : xFL RX2 51 2 1 := ⟨RX2, TX2, 14, rfl, Nat.le_of_ble_eq_true rfl, igX2, fl_2_51⟩
set_option maxRecDepth 20000 in
theorem fl_2_55 : Cond.fieldLink RX2 55 (TX2 2).1 (TX2 2).2.1 (TX2 2).2.2.1 ∈ lw_g := lw_c2 112 rfl rfl
theorem fg_2_55 : xFL RX2 55 2 2 := ⟨RX2, TX2, 14, rfl, Nat.le_of_ble_eq_true rfl, igX2, fl_2_55⟩
set_option maxRecDepth 20000 in
theorem fl_2_94 : Cond.fieldLink RX2 94 (TX7 6).1 (TX7 6).2.1 (TX7 6).2.2.1 ∈ lw_g := lw_c2 54 rfl rfl
theorem fg_2_94 : xFL RX2 94 7 6 := ⟨RX7, TX7, 8, rfl, Nat.le_of_ble_eq_true rfl, igX7, fl_2_94⟩
set_option maxRecDepth 20000 in
theorem fl_2_101 : Cond.fieldLink RX2 101 (TX6 0).1 (TX6 0).2.1 (TX6 0).2.2.1 ∈ lw_g := lw_c1 111 rfl rfl
theorem fg_2_101 : xFL RX2 101 6 0 := ⟨RX6, TX6, 10, rfl, Nat.le_of_ble_eq_true rfl, igX6, fl_2_101⟩
set_option maxRecDepth 20000 in
theorem fl_2_127 : Cond.fieldLink RX2 127 (TX6 5).1 (TX6 5).2.1 (TX6 5).2.2.1 ∈ lw_g := lw_c1 128 rfl rfl
theorem fg_2_127 : xFL RX2 127 6 5 := ⟨RX6, TX6, 10, rfl, Nat.le_of_ble_eq_true rfl, igX6, fl_2_127⟩
set_option maxRecDepth 20000 in
theorem fl_2_143 : Cond.fieldLink RX2 143 (TX2 13).1 (TX2 13).2.1 (TX2 13).2.2.1 ∈ lw_g := lw_c2 123 rfl rfl
theorem fg_2_143 : xFL RX2 143 2 13 := ⟨RX2, TX2, 14, rfl, Nat.le_of_ble_eq_true rfl, igX2, fl_2_143⟩
theorem fp_2_143 : xFP RX2 143 2 13 .int := ⟨RX2, TX2, 14, tyX2, rfl, Nat.le_of_ble_eq_true rfl, igX2, fl_2_143, tyX2_ok, nmX2, rfl, tyX2_ok 13 (Nat.le_of_ble_eq_true rfl)⟩
set_option maxRecDepth 20000 in
theorem fl_3_11 : Cond.fieldLink RX3 11 (TX3 1).1 (TX3 1).2.1 (TX3 1).2.2.1 ∈ lw_g := lw_c2 80 rfl rfl
theorem fg_3_11 : xFL RX3 11 3 1 := ⟨RX3, TX3, 7, rfl, Nat.le_of_ble_eq_true rfl, igX3, fl_3_11⟩
set_option maxRecDepth 20000 in
theorem fl_3_17 : Cond.fieldLink RX3 17 (TX3 2).1 (TX3 2).2.1 (TX3 2).2.2.1 ∈ lw_g := lw_c2 81 rfl rfl
theorem fg_3_17 : xFL RX3 17 3 2 := ⟨RX3, TX3, 7, rfl, Nat.le_of_ble_eq_true rfl, igX3, fl_3_17⟩
set_option maxRecDepth 20000 in
theorem fl_3_20 : Cond.fieldLink RX3 20 (TX3 3).1 (TX3 3).2.1 (TX3 3).2.2.1 ∈ lw_g := lw_c2 82 rfl rfl
theorem fg_3_20 : xFL RX3 20 3 3 := ⟨RX3, TX3, 7, rfl, Nat.le_of_ble_eq_true rfl, igX3, fl_3_20⟩
set_option maxRecDepth 20000 in
theorem fl_3_23 : Cond.fieldLink RX3 23 (TX3 5).1 (TX3 5).2.1 (TX3 5).2.2.1 ∈ lw_g := lw_c2 85 rfl rfl
theorem fg_3_23 : xFL RX3 23 3 5 := ⟨RX3, TX3, 7, rfl, Nat.le_of_ble_eq_true rfl, igX3, fl_3_23⟩
set_option maxRecDepth 20000 in
theorem fl_3_26 : Cond.fieldLink RX3 26 (TX3 6).1 (TX3 6).2.1 (TX3 6).2.2.1 ∈ lw_g := lw_c2 87 rfl rfl
theorem fg_3_26 : xFL RX3 26 3 6 := ⟨RX3, TX3, 7, rfl, Nat.le_of_ble_eq_true rfl, igX3, fl_3_26⟩
set_option maxRecDepth 20000 in
theorem fl_3_29 : Cond.fieldLink RX3 29 (TX3 0).1 (TX3 0).2.1 (TX3 0).2.2.1 ∈ lw_g := lw_c2 79 rfl rfl
theorem fg_3_29 : xFL RX3 29 3 0 := ⟨RX3, TX3, 7, rfl, Nat.le_of_ble_eq_true rfl, igX3, fl_3_29⟩
set_option maxRecDepth 20000 in
theorem fl_3_33 : Cond.fieldLink RX3 33 (TX3 4).1 (TX3 4).2.1 (TX3 4).2.2.1 ∈ lw_g := lw_c2 83 rfl rfl
theorem fg_3_33 : xFL RX3 33 3 4 := ⟨RX3, TX3, 7, rfl, Nat.le_of_ble_eq_true rfl, igX3, fl_3_33⟩
theorem fp_3_33 : xFP RX3 33 3 4 .int := ⟨RX3, TX3, 7, tyX3, rfl, Nat.le_of_ble_eq_true rfl, igX3, fl_3_33, tyX3_ok, nmX3, rfl, tyX3_ok 4 (Nat.le_of_ble_eq_true rfl)⟩
set_option maxRecDepth 20000 in
theorem fl_3_65 : Cond.fieldLink RX3 65 (TX6 3).1 (TX6 3).2.1 (TX6 3).2.2.1 ∈ lw_g := lw_c1 119 rfl rfl
theorem fg_3_65 : xFL RX3 65 6 3 := ⟨RX6, TX6, 10, rfl, Nat.le_of_ble_eq_true rfl, igX6, fl_3_65⟩
set_option maxRecDepth 20000 in
theorem fl_3_68 : Cond.fieldLink RX3 68 (TX6 2).1 (TX6 2).2.1 (TX6 2).2.2.1 ∈ lw_g := lw_c1 115 rfl rfl
theorem fg_3_68 : xFL RX3 68 6 2 := ⟨RX6, TX6, 10, rfl, Nat.le_of_ble_eq_true rfl, igX6, fl_3_68⟩
set_option maxRecDepth 20000 in
theorem fl_3_71 : Cond.fieldLink RX3 71 (TX6 8).1 (TX6 8).2.1 (TX6 8).2.2.1 ∈ lw_g := lw_c1 137 rfl rfl
theorem fg_3_71 : xFL RX3 71 6 8 := ⟨RX6, TX6, 10, rfl, Nat.le_of_ble_eq_true rfl, igX6, fl_3_71⟩
set_option maxRecDepth 20000 in
theorem fl_4_13 : Cond.fieldLink RX4 13 (TX4 1).1 (TX4 1).2.1 (TX4 1).2.2.1 ∈ lw_g := lw_c2 214 rfl rfl
theorem fg_4_13 : xFL RX4 13 4 1 := ⟨RX4, TX4, 9, rfl, Nat.le_of_ble_eq_true rfl, igX4, fl_4_13⟩
set_option maxRecDepth 20000 in
theorem fl_4_17 : Cond.fieldLink RX4 17 (TX4 3).1 (TX4 3).2.1 (TX4 3).2.2.1 ∈ lw_g := lw_c2 218 rfl rfl
theorem fg_4_17 : xFL RX4 17 4 3 := ⟨RX4, TX4, 9, rfl, Nat.le_of_ble_eq_true rfl, igX4, fl_4_17⟩
set_option maxRecDepth 20000 in
theorem fl_4_20 : Cond.fieldLink RX4 20 (TX4 6).1 (TX4 6).2.1 (TX4 6).2.2.1 ∈ lw_g := lw_c2 222 rfl rfl
theorem fg_4_20 : xFL RX4 20 4 6 := ⟨RX4, TX4, 9, rfl, Nat.le_of_ble_eq_true rfl, igX4, fl_4_20⟩
set_option maxRecDepth 20000 in
theorem fl_4_23 : Cond.fieldLink RX4 23 (TX4 7).1 (TX4 7).2.1 (TX4 7).2.2.1 ∈ lw_g := lw_c2 224 rfl rfl
theorem fg_4_23 : xFL RX4 23 4 7 := ⟨RX4, TX4, 9, rfl, Nat.le_of_ble_eq_true rfl, igX4, fl_4_23⟩
set_option maxRecDepth 20000 in
theorem fl_4_26 : Cond.fieldLink RX4 26 (TX4 8).1 (TX4 8).2.1 (TX4 8).2.2.1 ∈ lw_g := lw_c2 226 rfl rfl
theorem fg_4_26 : xFL RX4 26 4 8 := ⟨RX4, TX4, 9, rfl, Nat.le_of_ble_eq_true rfl, igX4, fl_4_26⟩
set_option maxRecDepth 20000 in
theorem fl_4_30 : Cond.fieldLink RX4 30 (TX4 0).1 (TX4 0).2.1 (TX4 0).2.2.1 ∈ lw_g := lw_c2 213 rfl rfl
theorem fg_4_30 : xFL RX4 30 4 0 := ⟨RX4, TX4, 9, rfl, Nat.le_of_ble_eq_true rfl, igX4, fl_4_30⟩
set_option maxRecDepth 20000 in
theorem fl_4_34 : Cond.fieldLink RX4 34 (TX4 5).1 (TX4 5).2.1 (TX4 5).2.2.1 ∈ lw_g := lw_c2 220 rfl rfl
theorem fg_4_34 : xFL RX4 34 4 5 := ⟨RX4, TX4, 9, rfl, Nat.le_of_ble_eq_true rfl, igX4, fl_4_34⟩
theorem fp_4_34 : xFP RX4 34 4 5 .int := ⟨RX4, TX4, 9, tyX4, rfl, Nat.le_of_ble_eq_true rfl, igX4, fl_4_34, tyX4_ok, nmX4, rfl, tyX4_ok 5 (Nat.le_of_ble_eq_true rfl)⟩
set_option maxRecDepth 20000 in
theorem fl_4_38 : Cond.fieldLink RX4 38 (TX4 4).1 (TX4 4).2.1 (TX4 4).2.2.1 ∈ lw_g := lw_c2 219 rfl rfl
theorem fg_4_38 : xFL RX4 38 4 4 := ⟨RX4, TX4, 9, rfl, Nat.le_of_ble_eq_true rfl, igX4, fl_4_38⟩
theorem fp_4_38 : xFP RX4 38 4 4 .boolean := ⟨RX4, TX4, 9, tyX4, rfl, Nat.le_of_ble_eq_true rfl, igX4, fl_4_38, tyX4_ok, nmX4, rfl, tyX4_ok 4 (Nat.le_of_ble_eq_true rfl)⟩
set_option maxRecDepth 20000 in
theorem fl_4_42 : Cond.fieldLink RX4 42 (TX4 2).1 (TX4 2).2.1 (TX4 2).2.2.1 ∈ lw_g := lw_c2 216 rfl rfl
theorem fg_4_42 : xFL RX4 42 4 2 := ⟨RX4, TX4, 9, rfl, Nat.le_of_ble_eq_true rfl, igX4, fl_4_42⟩
theorem fp_4_42 : xFP RX4 42 4 2 .int := ⟨RX4, TX4, 9, tyX4, rfl, Nat.le_of_ble_eq_true rfl, igX4, fl_4_42, tyX4_ok, nmX4, rfl, tyX4_ok 2 (Nat.le_of_ble_eq_true rfl)⟩
set_option maxRecDepth 20000 in
theorem fl_5_11 : Cond.fieldLink RX5 11 (TX5 3).1 (TX5 3).2.1 (TX5 3).2.2.1 ∈ lw_g := lw_c2 162 rfl rfl
theorem fg_5_11 : xFL RX5 11 5 3 := ⟨RX5, TX5, 14, rfl, Nat.le_of_ble_eq_true rfl, igX5, fl_5_11⟩
set_option maxRecDepth 20000 in
theorem fl_5_15 : Cond.fieldLink RX5 15 (TX5 5).1 (TX5 5).2.1 (TX5 5).2.2.1 ∈ lw_g := lw_c2 166 rfl rfl
theorem fg_5_15 : xFL RX5 15 5 5 := ⟨RX5, TX5, 14, rfl, Nat.le_of_ble_eq_true rfl, igX5, fl_5_15⟩
set_option maxRecDepth 20000 in
theorem fl_5_18 : Cond.fieldLink RX5 18 (TX5 6).1 (TX5 6).2.1 (TX5 6).2.2.1 ∈ lw_g := lw_c2 167 rfl rfl
theorem fg_5_18 : xFL RX5 18 5 6 := ⟨RX5, TX5, 14, rfl, Nat.le_of_ble_eq_true rfl, igX5, fl_5_18⟩
set_option maxRecDepth 20000 in
theorem fl_5_24 : Cond.fieldLink RX5 24 (TX5 7).1 (TX5 7).2.1 (TX5 7).2.2.1 ∈ lw_g := lw_c2 168 rfl rfl
theorem fg_5_24 : xFL RX5 24 5 7 := ⟨RX5, TX5, 14, rfl, Nat.le_of_ble_eq_true rfl, igX5, fl_5_24⟩
set_option maxRecDepth 20000 in
theorem fl_5_27 : Cond.fieldLink RX5 27 (TX5 8).1 (TX5 8).2.1 (TX5 8).2.2.1 ∈ lw_g := lw_c2 169 rfl rfl
theorem fg_5_27 : xFL RX5 27 5 8 := ⟨RX5, TX5, 14, rfl, Nat.le_of_ble_eq_true rfl, igX5, fl_5_27⟩
set_option maxRecDepth 20000 in
theorem fl_5_30 : Cond.fieldLink RX5 30 (TX5 9).1 (TX5 9).2.1 (TX5 9).2.2.1 ∈ lw_g := lw_c2 170 rfl rfl
theorem fg_5_30 : xFL RX5 30 5 9 := ⟨RX5, TX5, 14, rfl, Nat.le_of_ble_eq_true rfl, igX5, fl_5_30⟩
set_option maxRecDepth 20000 in
theorem fl_5_33 : Cond.fieldLink RX5 33 (TX5 10).1 (TX5 10).2.1 (TX5 10).2.2.1 ∈ lw_g := lw_c2 171 rfl rfl
theorem fg_5_33 : xFL RX5 33 5 10 := ⟨RX5, TX5, 14, rfl, Nat.le_of_ble_eq_true rfl, igX5, fl_5_33⟩
set_option maxRecDepth 20000 in
theorem fl_5_36 : Cond.fieldLink RX5 36 (TX5 12).1 (TX5 12).2.1 (TX5 12).2.2.1 ∈ lw_g := lw_c2 174 rfl rfl
theorem fg_5_36 : xFL RX5 36 5 12 := ⟨RX5, TX5, 14, rfl, Nat.le_of_ble_eq_true rfl, igX5, fl_5_36⟩
set_option maxRecDepth 20000 in
theorem fl_5_39 : Cond.fieldLink RX5 39 (TX5 13).1 (TX5 13).2.1 (TX5 13).2.2.1 ∈ lw_g := lw_c2 176 rfl rfl
theorem fg_5_39 : xFL RX5 39 5 13 := ⟨RX5, TX5, 14, rfl, Nat.le_of_ble_eq_true rfl, igX5, fl_5_39⟩
set_option maxRecDepth 20000 in
theorem fl_5_42 : Cond.fieldLink RX5 42 (TX5 0).1 (TX5 0).2.1 (TX5 0).2.2.1 ∈ lw_g := lw_c2 159 rfl rfl
theorem fg_5_42 : xFL RX5 42 5 0 := ⟨RX5, TX5, 14, rfl, Nat.le_of_ble_eq_true rfl, igX5, fl_5_42⟩
set_option maxRecDepth 20000 in
theorem fl_5_46 : Cond.fieldLink RX5 46 (TX5 1).1 (TX5 1).2.1 (TX5 1).2.2.1 ∈ lw_g := lw_c2 160 rfl rfl
theorem fg_5_46 : xFL RX5 46 5 1 := ⟨RX5, TX5, 14, rfl, Nat.le_of_ble_eq_true rfl, igX5, fl_5_46⟩
set_option maxRecDepth 20000 in
theorem fl_5_50 : Cond.fieldLink RX5 50 (TX5 2).1 (TX5 2).2.1 (TX5 2).2.2.1 ∈ lw_g := lw_c2 161 rfl rfl
theorem fg_5_50 : xFL RX5 50 5 2 := ⟨RX5, TX5, 14, rfl, Nat.le_of_ble_eq_true rfl, igX5, fl_5_50⟩
set_option maxRecDepth 20000 in
theorem fl_5_54 : Cond.fieldLink RX5 54 (TX5 4).1 (TX5 4).2.1 (TX5 4).2.2.1 ∈ lw_g := lw_c2 164 rfl rfl
theorem fg_5_54 : xFL RX5 54 5 4 := ⟨RX5, TX5, 14, rfl, Nat.le_of_ble_eq_true rfl, igX5, fl_5_54⟩
theorem fp_5_54 : xFP RX5 54 5 4 .int := ⟨RX5, TX5, 14, tyX5, rfl, Nat.le_of_ble_eq_true rfl, igX5, fl_5_54, tyX5_ok, nmX5, rfl, tyX5_ok 4 (Nat.le_of_ble_eq_true rfl)⟩
set_option maxRecDepth 20000 in
theorem fl_5_58 : Cond.fieldLink RX5 58 (TX5 11).1 (TX5 11).2.1 (TX5 11).2.2.1 ∈ lw_g := lw_c2 172 rfl rfl
theorem fg_5_58 : xFL RX5 58 5 11 := ⟨RX5, TX5, 14, rfl, Nat.le_of_ble_eq_true rfl, igX5, fl_5_58⟩
theorem fp_5_58 : xFP RX5 58 5 11 .int := ⟨RX5, TX5, 14, tyX5, rfl, Nat.le_of_ble_eq_true rfl, igX5, fl_5_58, tyX5_ok, nmX5, rfl, tyX5_ok 11 (Nat.le_of_ble_eq_true rfl)⟩
set_option maxRecDepth 20000 in
theorem fl_5_66 : Cond.fieldLink RX5 66 (TX8 3).1 (TX8 3).2.1 (TX8 3).2.2.1 ∈ lw_g := lw_c1 41 rfl rfl
theorem fg_5_66 : xFL RX5 66 8 3 := ⟨RX8, TX8, 13, rfl, Nat.le_of_ble_eq_true rfl, igX8, fl_5_66⟩
set_option maxRecDepth 20000 in
theorem fl_5_73 : Cond.fieldLink RX5 73 (TX8 6).1 (TX8 6).2.1 (TX8 6).2.2.1 ∈ lw_g := lw_c1 51 rfl rfl
theorem fg_5_73 : xFL RX5 73 8 6 := ⟨RX8, TX8, 13, rfl, Nat.le_of_ble_eq_true rfl, igX8, fl_5_73⟩
set_option maxRecDepth 20000 in
theorem fl_5_99 : Cond.fieldLink RX5 99 (TX9 0).1 (TX9 0).2.1 (TX9 0).2.2.1 ∈ lw_g := lw_c2 17 rfl rfl
theorem fg_5_99 : xFL RX5 99 9 0 := ⟨RX9, TX9, 5, rfl, Nat.le_of_ble_eq_true rfl, igX9, fl_5_99⟩
set_option maxRecDepth 20000 in
theorem fl_6_11 : Cond.fieldLink RX6 11 (TX6 1).1 (TX6 1).2.1 (TX6 1).2.2.1 ∈ lw_g := lw_c1 113 rfl rfl
theorem fg_6_11 : xFL RX6 11 6 1 := ⟨RX6, TX6, 10, rfl, Nat.le_of_ble_eq_true rfl, igX6, fl_6_11⟩
set_option maxRecDepth 20000 in
theorem fl_6_15 : Cond.fieldLink RX6 15 (TX6 2).1 (TX6 2).2.1 (TX6 2).2.2.1 ∈ lw_g := lw_c1 114 rfl rfl
theorem fg_6_15 : xFL RX6 15 6 2 := ⟨RX6, TX6, 10, rfl, Nat.le_of_ble_eq_true rfl, igX6, fl_6_15⟩
set_option maxRecDepth 20000 in
theorem fl_6_19 : Cond.fieldLink RX6 19 (TX6 3).1 (TX6 3).2.1 (TX6 3).2.2.1 ∈ lw_g := lw_c1 118 rfl rfl
theorem fg_6_19 : xFL RX6 19 6 3 := ⟨RX6, TX6, 10, rfl, Nat.le_of_ble_eq_true rfl, igX6, fl_6_19⟩
set_option maxRecDepth 20000 in
theorem fl_6_22 : Cond.fieldLink RX6 22 (TX6 4).1 (TX6 4).2.1 (TX6 4).2.2.1 ∈ lw_g := lw_c1 122 rfl rfl
theorem fg_6_22 : xFL RX6 22 6 4 := ⟨RX6, TX6, 10, rfl, Nat.le_of_ble_eq_true rfl, igX6, fl_6_22⟩
set_option maxRecDepth 20000 in
theorem fl_6_25 : Cond.fieldLink RX6 25 (TX6 5).1 (TX6 5).2.1 (TX6 5).2.2.1 ∈ lw_g := lw_c1 125 rfl rfl
theorem fg_6_25 : xFL RX6 25 6 5 := ⟨RX6, TX6, 10, rfl, Nat.le_of_ble_eq_true rfl, igX6, fl_6_25⟩
set_option maxRecDepth 20000 in
theorem fl_6_28 : Cond.fieldLink RX6 28 (TX6 6).1 (TX6 6).2.1 (TX6 6).2.2.1 ∈ lw_g := lw_c1 129 rfl rfl
theorem fg_6_28 : xFL RX6 28 6 6 := ⟨RX6, TX6, 10, rfl, Nat.le_of_ble_eq_true rfl, igX6, fl_6_28⟩
set_option maxRecDepth 20000 in
theorem fl_6_31 : Cond.fieldLink RX6 31 (TX6 7).1 (TX6 7).2.1 (TX6 7).2.2.1 ∈ lw_g := lw_c1 132 rfl rfl
theorem fg_6_31 : xFL RX6 31 6 7 := ⟨RX6, TX6, 10, rfl, Nat.le_of_ble_eq_true rfl, igX6, fl_6_31⟩
set_option maxRecDepth 20000 in
theorem fl_6_34 : Cond.fieldLink RX6 34 (TX6 8).1 (TX6 8).2.1 (TX6 8).2.2.1 ∈ lw_g := lw_c1 134 rfl rfl
theorem fg_6_34 : xFL RX6 34 6 8 := ⟨RX6, TX6, 10, rfl, Nat.le_of_ble_eq_true rfl, igX6, fl_6_34⟩
set_option maxRecDepth 20000 in
theorem fl_6_46 : Cond.fieldLink RX6 46 (TX6 0).1 (TX6 0).2.1 (TX6 0).2.2.1 ∈ lw_g := lw_c1 108 rfl rfl
theorem fg_6_46 : xFL RX6 46 6 0 := ⟨RX6, TX6, 10, rfl, Nat.le_of_ble_eq_true rfl, igX6, fl_6_46⟩
theorem fp_6_46 : xFP RX6 46 6 0 .int := ⟨RX6, TX6, 10, tyX6, rfl, Nat.le_of_ble_eq_true rfl, igX6, fl_6_46, tyX6_ok, nmX6, rfl, tyX6_ok 0 (Nat.le_of_ble_eq_true rfl)⟩
set_option maxRecDepth 20000 in
theorem fl_6_54 : Cond.fieldLink RX6 54 (TX6 9).1 (TX6 9).2.1 (TX6 9).2.2.1 ∈ lw_g := lw_c1 139 rfl rfl
theorem fg_6_54 : xFL RX6 54 6 9 := ⟨RX6, TX6, 10, rfl, Nat.le_of_ble_eq_true rfl, igX6, fl_6_54⟩
theorem fp_6_54 : xFP RX6 54 6 9 .int := ⟨RX6, TX6, 10, tyX6, rfl, Nat.le_of_ble_eq_true rfl, igX6, fl_6_54, tyX6_ok, nmX6, rfl, tyX6_ok 9 (Nat.le_of_ble_eq_true rfl)⟩
set_option maxRecDepth 20000 in
theorem fl_6_62 : Cond.fieldLink RX6 62 (TX8 3).1 (TX8 3).2.1 (TX8 3).2.2.1 ∈ lw_g := lw_c1 44 rfl rfl
theorem fg_6_62 : xFL RX6 62 8 3 := ⟨RX8, TX8, 13, rfl, Nat.le_of_ble_eq_true rfl, igX8, fl_6_62⟩
set_option maxRecDepth 20000 in
theorem fl_6_96 : Cond.fieldLink RX6 96 (TX8 9).1 (TX8 9).2.1 (TX8 9).2.2.1 ∈ lw_g := lw_c1 62 rfl rfl
theorem fg_6_96 : xFL RX6 96 8 9 := ⟨RX8, TX8, 13, rfl, Nat.le_of_ble_eq_true rfl, igX8, fl_6_96⟩
set_option maxRecDepth 20000 in
theorem fl_6_110 : Cond.fieldLink RX6 110 (TX8 6).1 (TX8 6).2.1 (TX8 6).2.2.1 ∈ lw_g := lw_c1 55 rfl rfl
theorem fg_6_110 : xFL RX6 110 8 6 := ⟨RX8, TX8, 13, rfl, Nat.le_of_ble_eq_true rfl, igX8, fl_6_110⟩
set_option maxRecDepth 20000 in
theorem fl_6_136 : Cond.fieldLink RX6 136 (TX8 5).1 (TX8 5).2.1 (TX8 5).2.2.1 ∈ lw_g := lw_c1 48 rfl rfl
theorem fg_6_136 : xFL RX6 136 8 5 := ⟨RX8, TX8, 13, rfl, Nat.le_of_ble_eq_true rfl, igX8, fl_6_136⟩
set_option maxRecDepth 20000 in
theorem fl_6_139 : Cond.fieldLink RX6 139 (TX8 7).1 (TX8 7).2.1 (TX8 7).2.2.1 ∈ lw_g := lw_c1 58 rfl rfl
theorem fg_6_139 : xFL RX6 139 8 7 := ⟨RX8, TX8, 13, rfl, Nat.le_of_ble_eq_true rfl, igX8, fl_6_139⟩
set_option maxRecDepth 20000 in
theorem fl_7_9 : Cond.fieldLink RX7 9 (TX7 7).1 (TX7 7).2.1 (TX7 7).2.2.1 ∈ lw_g := lw_c2 55 rfl rfl
theorem fg_7_9 : xFL RX7 9 7 7 := ⟨RX7, TX7, 8, rfl, Nat.le_of_ble_eq_true rfl, igX7, fl_7_9⟩
set_option maxRecDepth 20000 in
theorem fl_7_13 : Cond.fieldLink RX7 13 (TX7 0).1 (TX7 0).2.1 (TX7 0).2.2.1 ∈ lw_g := lw_c2 47 rfl rfl
theorem fg_7_13 : xFL RX7 13 7 0 := ⟨RX7, TX7, 8, rfl, Nat.le_of_ble_eq_true rfl, igX7, fl_7_13⟩
set_option maxRecDepth 20000 in
theorem fl_7_17 : Cond.fieldLink RX7 17 (TX7 1).1 (TX7 1).2.1 (TX7 1).2.2.1 ∈ lw_g := lw_c2 48 rfl rfl
theorem fg_7_17 : xFL RX7 17 7 1 := ⟨RX7, TX7, 8, rfl, Nat.le_of_ble_eq_true rfl, igX7, fl_7_17⟩
theorem fp_7_17 : xFP RX7 17 7 1 (.object "ScribeBlocks$SignList") := ⟨RX7, TX7, 8, tyX7, rfl, Nat.le_of_ble_eq_true rfl, igX7, fl_7_17, tyX7_ok, nmX7, rfl, tyX7_ok 1 (Nat.le_of_ble_eq_true rfl)⟩
set_option maxRecDepth 20000 in
theorem fl_7_21 : Cond.fieldLink RX7 21 (TX6 8).1 (TX6 8).2.1 (TX6 8).2.2.1 ∈ lw_g := lw_c1 135 rfl rfl
theorem fg_7_21 : xFL RX7 21 6 8 := ⟨RX6, TX6, 10, rfl, Nat.le_of_ble_eq_true rfl, igX6, fl_7_21⟩
set_option maxRecDepth 20000 in
theorem fl_7_26 : Cond.fieldLink RX7 26 (TX7 2).1 (TX7 2).2.1 (TX7 2).2.2.1 ∈ lw_g := lw_c2 49 rfl rfl
theorem fg_7_26 : xFL RX7 26 7 2 := ⟨RX7, TX7, 8, rfl, Nat.le_of_ble_eq_true rfl, igX7, fl_7_26⟩
theorem fp_7_26 : xFP RX7 26 7 2 .int := ⟨RX7, TX7, 8, tyX7, rfl, Nat.le_of_ble_eq_true rfl, igX7, fl_7_26, tyX7_ok, nmX7, rfl, tyX7_ok 2 (Nat.le_of_ble_eq_true rfl)⟩
set_option maxRecDepth 20000 in
theorem fl_7_30 : Cond.fieldLink RX7 30 (TX9 1).1 (TX9 1).2.1 (TX9 1).2.2.1 ∈ lw_g := lw_c2 20 rfl rfl
theorem fg_7_30 : xFL RX7 30 9 1 := ⟨RX9, TX9, 5, rfl, Nat.le_of_ble_eq_true rfl, igX9, fl_7_30⟩
set_option maxRecDepth 20000 in
theorem fl_7_36 : Cond.fieldLink RX7 36 (TX7 3).1 (TX7 3).2.1 (TX7 3).2.2.1 ∈ lw_g := lw_c2 50 rfl rfl
theorem fg_7_36 : xFL RX7 36 7 3 := ⟨RX7, TX7, 8, rfl, Nat.le_of_ble_eq_true rfl, igX7, fl_7_36⟩
theorem fp_7_36 : xFP RX7 36 7 3 .long := ⟨RX7, TX7, 8, tyX7, rfl, Nat.le_of_ble_eq_true rfl, igX7, fl_7_36, tyX7_ok, nmX7, rfl, tyX7_ok 3 (Nat.le_of_ble_eq_true rfl)⟩
set_option maxRecDepth 20000 in
theorem fl_7_40 : Cond.fieldLink RX7 40 (TX9 4).1 (TX9 4).2.1 (TX9 4).2.2.1 ∈ lw_g := lw_c2 28 rfl rfl
theorem fg_7_40 : xFL RX7 40 9 4 := ⟨RX9, TX9, 5, rfl, Nat.le_of_ble_eq_true rfl, igX9, fl_7_40⟩
set_option maxRecDepth 20000 in
theorem fl_7_43 : Cond.fieldLink RX7 43 (TX7 4).1 (TX7 4).2.1 (TX7 4).2.2.1 ∈ lw_g := lw_c2 51 rfl rfl
theorem fg_7_43 : xFL RX7 43 7 4 := ⟨RX7, TX7, 8, rfl, Nat.le_of_ble_eq_true rfl, igX7, fl_7_43⟩
theorem fp_7_43 : xFP RX7 43 7 4 .long := ⟨RX7, TX7, 8, tyX7, rfl, Nat.le_of_ble_eq_true rfl, igX7, fl_7_43, tyX7_ok, nmX7, rfl, tyX7_ok 4 (Nat.le_of_ble_eq_true rfl)⟩
set_option maxRecDepth 20000 in
theorem fl_7_46 : Cond.fieldLink RX7 46 (TX9 2).1 (TX9 2).2.1 (TX9 2).2.2.1 ∈ lw_g := lw_c2 22 rfl rfl
theorem fg_7_46 : xFL RX7 46 9 2 := ⟨RX9, TX9, 5, rfl, Nat.le_of_ble_eq_true rfl, igX9, fl_7_46⟩
set_option maxRecDepth 20000 in
theorem fl_7_49 : Cond.fieldLink RX7 49 (TX7 5).1 (TX7 5).2.1 (TX7 5).2.2.1 ∈ lw_g := lw_c2 52 rfl rfl
theorem fg_7_49 : xFL RX7 49 7 5 := ⟨RX7, TX7, 8, rfl, Nat.le_of_ble_eq_true rfl, igX7, fl_7_49⟩
theorem fp_7_49 : xFP RX7 49 7 5 .int := ⟨RX7, TX7, 8, tyX7, rfl, Nat.le_of_ble_eq_true rfl, igX7, fl_7_49, tyX7_ok, nmX7, rfl, tyX7_ok 5 (Nat.le_of_ble_eq_true rfl)⟩
set_option maxRecDepth 20000 in
theorem fl_7_52 : Cond.fieldLink RX7 52 (TX9 3).1 (TX9 3).2.1 (TX9 3).2.2.1 ∈ lw_g := lw_c2 25 rfl rfl
theorem fg_7_52 : xFL RX7 52 9 3 := ⟨RX9, TX9, 5, rfl, Nat.le_of_ble_eq_true rfl, igX9, fl_7_52⟩
set_option maxRecDepth 20000 in
theorem fl_7_55 : Cond.fieldLink RX7 55 (TX7 6).1 (TX7 6).2.1 (TX7 6).2.2.1 ∈ lw_g := lw_c2 53 rfl rfl
theorem fg_7_55 : xFL RX7 55 7 6 := ⟨RX7, TX7, 8, rfl, Nat.le_of_ble_eq_true rfl, igX7, fl_7_55⟩
theorem fp_7_55 : xFP RX7 55 7 6 .int := ⟨RX7, TX7, 8, tyX7, rfl, Nat.le_of_ble_eq_true rfl, igX7, fl_7_55, tyX7_ok, nmX7, rfl, tyX7_ok 6 (Nat.le_of_ble_eq_true rfl)⟩
set_option maxRecDepth 20000 in
theorem fl_7_60 : Cond.fieldLink RX7 60 (TX6 4).1 (TX6 4).2.1 (TX6 4).2.2.1 ∈ lw_g := lw_c1 123 rfl rfl
theorem fg_7_60 : xFL RX7 60 6 4 := ⟨RX6, TX6, 10, rfl, Nat.le_of_ble_eq_true rfl, igX6, fl_7_60⟩
set_option maxRecDepth 20000 in
theorem fl_7_62 : Cond.fieldLink RX7 62 (TX6 7).1 (TX6 7).2.1 (TX6 7).2.2.1 ∈ lw_g := lw_c1 133 rfl rfl
theorem fg_7_62 : xFL RX7 62 6 7 := ⟨RX6, TX6, 10, rfl, Nat.le_of_ble_eq_true rfl, igX6, fl_7_62⟩
set_option maxRecDepth 20000 in
theorem fl_7_65 : Cond.fieldLink RX7 65 (TX6 5).1 (TX6 5).2.1 (TX6 5).2.2.1 ∈ lw_g := lw_c1 126 rfl rfl
theorem fg_7_65 : xFL RX7 65 6 5 := ⟨RX6, TX6, 10, rfl, Nat.le_of_ble_eq_true rfl, igX6, fl_7_65⟩
set_option maxRecDepth 20000 in
theorem fl_7_70 : Cond.fieldLink RX7 70 (TX6 6).1 (TX6 6).2.1 (TX6 6).2.2.1 ∈ lw_g := lw_c1 130 rfl rfl
theorem fg_7_70 : xFL RX7 70 6 6 := ⟨RX6, TX6, 10, rfl, Nat.le_of_ble_eq_true rfl, igX6, fl_7_70⟩
set_option maxRecDepth 20000 in
theorem fl_7_111 : Cond.fieldLink RX7 111 (TX6 0).1 (TX6 0).2.1 (TX6 0).2.2.1 ∈ lw_g := lw_c1 112 rfl rfl
theorem fg_7_111 : xFL RX7 111 6 0 := ⟨RX6, TX6, 10, rfl, Nat.le_of_ble_eq_true rfl, igX6, fl_7_111⟩
set_option maxRecDepth 20000 in
theorem fl_8_11 : Cond.fieldLink RX8 11 (TX8 0).1 (TX8 0).2.1 (TX8 0).2.2.1 ∈ lw_g := lw_c1 35 rfl rfl
theorem fg_8_11 : xFL RX8 11 8 0 := ⟨RX8, TX8, 13, rfl, Nat.le_of_ble_eq_true rfl, igX8, fl_8_11⟩
set_option maxRecDepth 20000 in
theorem fl_8_15 : Cond.fieldLink RX8 15 (TX8 12).1 (TX8 12).2.1 (TX8 12).2.2.1 ∈ lw_g := lw_c1 67 rfl rfl
theorem fg_8_15 : xFL RX8 15 8 12 := ⟨RX8, TX8, 13, rfl, Nat.le_of_ble_eq_true rfl, igX8, fl_8_15⟩
theorem fp_8_15 : xFP RX8 15 8 12 .int := ⟨RX8, TX8, 13, tyX8, rfl, Nat.le_of_ble_eq_true rfl, igX8, fl_8_15, tyX8_ok, nmX8, rfl, tyX8_ok 12 (Nat.le_of_ble_eq_true rfl)⟩
set_option maxRecDepth 20000 in
theorem fl_8_19 : Cond.fieldLink RX8 19 (TX8 1).1 (TX8 1).2.1 (TX8 1).2.2.1 ∈ lw_g := lw_c1 37 rfl rfl
theorem fg_8_19 : xFL RX8 19 8 1 := ⟨RX8, TX8, 13, rfl, Nat.le_of_ble_eq_true rfl, igX8, fl_8_19⟩
theorem fp_8_19 : xFP RX8 19 8 1 .int := ⟨RX8, TX8, 13, tyX8, rfl, Nat.le_of_ble_eq_true rfl, igX8, fl_8_19, tyX8_ok, nmX8, rfl, tyX8_ok 1 (Nat.le_of_ble_eq_true rfl)⟩
set_option maxRecDepth 20000 in
theorem fl_8_22 : Cond.fieldLink RX8 22 (TX8 2).1 (TX8 2).2.1 (TX8 2).2.2.1 ∈ lw_g := lw_c1 38 rfl rfl
theorem fg_8_22 : xFL RX8 22 8 2 := ⟨RX8, TX8, 13, rfl, Nat.le_of_ble_eq_true rfl, igX8, fl_8_22⟩
theorem fp_8_22 : xFP RX8 22 8 2 .int := ⟨RX8, TX8, 13, tyX8, rfl, Nat.le_of_ble_eq_true rfl, igX8, fl_8_22, tyX8_ok, nmX8, rfl, tyX8_ok 2 (Nat.le_of_ble_eq_true rfl)⟩
set_option maxRecDepth 20000 in
theorem fl_8_25 : Cond.fieldLink RX8 25 (TX8 11).1 (TX8 11).2.1 (TX8 11).2.2.1 ∈ lw_g := lw_c1 65 rfl rfl
theorem fg_8_25 : xFL RX8 25 8 11 := ⟨RX8, TX8, 13, rfl, Nat.le_of_ble_eq_true rfl, igX8, fl_8_25⟩
theorem fp_8_25 : xFP RX8 25 8 11 .int := ⟨RX8, TX8, 13, tyX8, rfl, Nat.le_of_ble_eq_true rfl, igX8, fl_8_25, tyX8_ok, nmX8, rfl, tyX8_ok 11 (Nat.le_of_ble_eq_true rfl)⟩
set_option maxRecDepth 20000 in
theorem fl_8_28 : Cond.fieldLink RX8 28 (TX8 4).1 (TX8 4).2.1 (TX8 4).2.2.1 ∈ lw_g := lw_c1 45 rfl rfl
theorem fg_8_28 : xFL RX8 28 8 4 := ⟨RX8, TX8, 13, rfl, Nat.le_of_ble_eq_true rfl, igX8, fl_8_28⟩
theorem fp_8_28 : xFP RX8 28 8 4 .int := ⟨RX8, TX8, 13, tyX8, rfl, Nat.le_of_ble_eq_true rfl, igX8, fl_8_28, tyX8_ok, nmX8, rfl, tyX8_ok 4 (Nat.le_of_ble_eq_true rfl)⟩
set_option maxRecDepth 20000 in
theorem fl_8_31 : Cond.fieldLink RX8 31 (TX8 3).1 (TX8 3).2.1 (TX8 3).2.2.1 ∈ lw_g := lw_c1 42 rfl rfl
theorem fg_8_31 : xFL RX8 31 8 3 := ⟨RX8, TX8, 13, rfl, Nat.le_of_ble_eq_true rfl, igX8, fl_8_31⟩
theorem fp_8_31 : xFP RX8 31 8 3 .int := ⟨RX8, TX8, 13, tyX8, rfl, Nat.le_of_ble_eq_true rfl, igX8, fl_8_31, tyX8_ok, nmX8, rfl, tyX8_ok 3 (Nat.le_of_ble_eq_true rfl)⟩
set_option maxRecDepth 20000 in
theorem fl_8_50 : Cond.fieldLink RX8 50 (TX8 5).1 (TX8 5).2.1 (TX8 5).2.2.1 ∈ lw_g := lw_c1 47 rfl rfl
theorem fg_8_50 : xFL RX8 50 8 5 := ⟨RX8, TX8, 13, rfl, Nat.le_of_ble_eq_true rfl, igX8, fl_8_50⟩
theorem fp_8_50 : xFP RX8 50 8 5 .int := ⟨RX8, TX8, 13, tyX8, rfl, Nat.le_of_ble_eq_true rfl, igX8, fl_8_50, tyX8_ok, nmX8, rfl, tyX8_ok 5 (Nat.le_of_ble_eq_true rfl)⟩
set_option maxRecDepth 20000 in
theorem fl_8_53 : Cond.fieldLink RX8 53 (TX8 6).1 (TX8 6).2.1 (TX8 6).2.2.1 ∈ lw_g := lw_c1 52 rfl rfl
theorem fg_8_53 : xFL RX8 53 8 6 := ⟨RX8, TX8, 13, rfl, Nat.le_of_ble_eq_true rfl, igX8, fl_8_53⟩
theorem fp_8_53 : xFP RX8 53 8 6 .long := ⟨RX8, TX8, 13, tyX8, rfl, Nat.le_of_ble_eq_true rfl, igX8, fl_8_53, tyX8_ok, nmX8, rfl, tyX8_ok 6 (Nat.le_of_ble_eq_true rfl)⟩
set_option maxRecDepth 20000 in
theorem fl_8_57 : Cond.fieldLink RX8 57 (TX8 7).1 (TX8 7).2.1 (TX8 7).2.2.1 ∈ lw_g := lw_c1 57 rfl rfl
theorem fg_8_57 : xFL RX8 57 8 7 := ⟨RX8, TX8, 13, rfl, Nat.le_of_ble_eq_true rfl, igX8, fl_8_57⟩
theorem fp_8_57 : xFP RX8 57 8 7 .int := ⟨RX8, TX8, 13, tyX8, rfl, Nat.le_of_ble_eq_true rfl, igX8, fl_8_57, tyX8_ok, nmX8, rfl, tyX8_ok 7 (Nat.le_of_ble_eq_true rfl)⟩
set_option maxRecDepth 20000 in
theorem fl_8_60 : Cond.fieldLink RX8 60 (TX8 8).1 (TX8 8).2.1 (TX8 8).2.2.1 ∈ lw_g := lw_c1 60 rfl rfl
theorem fg_8_60 : xFL RX8 60 8 8 := ⟨RX8, TX8, 13, rfl, Nat.le_of_ble_eq_true rfl, igX8, fl_8_60⟩
theorem fp_8_60 : xFP RX8 60 8 8 .boolean := ⟨RX8, TX8, 13, tyX8, rfl, Nat.le_of_ble_eq_true rfl, igX8, fl_8_60, tyX8_ok, nmX8, rfl, tyX8_ok 8 (Nat.le_of_ble_eq_true rfl)⟩
set_option maxRecDepth 20000 in
theorem fl_8_68 : Cond.fieldLink RX8 68 (TX8 9).1 (TX8 9).2.1 (TX8 9).2.2.1 ∈ lw_g := lw_c1 61 rfl rfl
theorem fg_8_68 : xFL RX8 68 8 9 := ⟨RX8, TX8, 13, rfl, Nat.le_of_ble_eq_true rfl, igX8, fl_8_68⟩
theorem fp_8_68 : xFP RX8 68 8 9 .int := ⟨RX8, TX8, 13, tyX8, rfl, Nat.le_of_ble_eq_true rfl, igX8, fl_8_68, tyX8_ok, nmX8, rfl, tyX8_ok 9 (Nat.le_of_ble_eq_true rfl)⟩
set_option maxRecDepth 20000 in
theorem fl_8_71 : Cond.fieldLink RX8 71 (TX8 10).1 (TX8 10).2.1 (TX8 10).2.2.1 ∈ lw_g := lw_c1 64 rfl rfl
theorem fg_8_71 : xFL RX8 71 8 10 := ⟨RX8, TX8, 13, rfl, Nat.le_of_ble_eq_true rfl, igX8, fl_8_71⟩
theorem fp_8_71 : xFP RX8 71 8 10 .int := ⟨RX8, TX8, 13, tyX8, rfl, Nat.le_of_ble_eq_true rfl, igX8, fl_8_71, tyX8_ok, nmX8, rfl, tyX8_ok 10 (Nat.le_of_ble_eq_true rfl)⟩
set_option maxRecDepth 20000 in
theorem fl_9_11 : Cond.fieldLink RX9 11 (TX9 1).1 (TX9 1).2.1 (TX9 1).2.2.1 ∈ lw_g := lw_c2 19 rfl rfl
theorem fg_9_11 : xFL RX9 11 9 1 := ⟨RX9, TX9, 5, rfl, Nat.le_of_ble_eq_true rfl, igX9, fl_9_11⟩
set_option maxRecDepth 20000 in
theorem fl_9_15 : Cond.fieldLink RX9 15 (TX9 2).1 (TX9 2).2.1 (TX9 2).2.2.1 ∈ lw_g := lw_c2 21 rfl rfl
theorem fg_9_15 : xFL RX9 15 9 2 := ⟨RX9, TX9, 5, rfl, Nat.le_of_ble_eq_true rfl, igX9, fl_9_15⟩
set_option maxRecDepth 20000 in
theorem fl_9_19 : Cond.fieldLink RX9 19 (TX9 3).1 (TX9 3).2.1 (TX9 3).2.2.1 ∈ lw_g := lw_c2 24 rfl rfl
theorem fg_9_19 : xFL RX9 19 9 3 := ⟨RX9, TX9, 5, rfl, Nat.le_of_ble_eq_true rfl, igX9, fl_9_19⟩
set_option maxRecDepth 20000 in
theorem fl_9_22 : Cond.fieldLink RX9 22 (TX9 4).1 (TX9 4).2.1 (TX9 4).2.2.1 ∈ lw_g := lw_c2 27 rfl rfl
theorem fg_9_22 : xFL RX9 22 9 4 := ⟨RX9, TX9, 5, rfl, Nat.le_of_ble_eq_true rfl, igX9, fl_9_22⟩
set_option maxRecDepth 20000 in
theorem fl_9_25 : Cond.fieldLink RX9 25 (TX9 0).1 (TX9 0).2.1 (TX9 0).2.2.1 ∈ lw_g := lw_c2 16 rfl rfl
theorem fg_9_25 : xFL RX9 25 9 0 := ⟨RX9, TX9, 5, rfl, Nat.le_of_ble_eq_true rfl, igX9, fl_9_25⟩
theorem fp_9_25 : xFP RX9 25 9 0 .int := ⟨RX9, TX9, 5, tyX9, rfl, Nat.le_of_ble_eq_true rfl, igX9, fl_9_25, tyX9_ok, nmX9, rfl, tyX9_ok 0 (Nat.le_of_ble_eq_true rfl)⟩
set_option maxRecDepth 20000 in
theorem fl_9_34 : Cond.fieldLink RX9 34 (TX8 3).1 (TX8 3).2.1 (TX8 3).2.2.1 ∈ lw_g := lw_c1 40 rfl rfl
theorem fg_9_34 : xFL RX9 34 8 3 := ⟨RX8, TX8, 13, rfl, Nat.le_of_ble_eq_true rfl, igX8, fl_9_34⟩
set_option maxRecDepth 20000 in
theorem fl_9_37 : Cond.fieldLink RX9 37 (TX8 6).1 (TX8 6).2.1 (TX8 6).2.2.1 ∈ lw_g := lw_c1 50 rfl rfl
theorem fg_9_37 : xFL RX9 37 8 6 := ⟨RX8, TX8, 13, rfl, Nat.le_of_ble_eq_true rfl, igX8, fl_9_37⟩
set_option maxRecDepth 20000 in
theorem fl_9_45 : Cond.fieldLink RX9 45 (TX8 7).1 (TX8 7).2.1 (TX8 7).2.2.1 ∈ lw_g := lw_c1 56 rfl rfl
theorem fg_9_45 : xFL RX9 45 8 7 := ⟨RX8, TX8, 13, rfl, Nat.le_of_ble_eq_true rfl, igX8, fl_9_45⟩
set_option maxRecDepth 20000 in
theorem fl_9_48 : Cond.fieldLink RX9 48 (TX8 5).1 (TX8 5).2.1 (TX8 5).2.2.1 ∈ lw_g := lw_c1 46 rfl rfl
theorem fg_9_48 : xFL RX9 48 8 5 := ⟨RX8, TX8, 13, rfl, Nat.le_of_ble_eq_true rfl, igX8, fl_9_48⟩
set_option maxRecDepth 20000 in
theorem fl_10_11 : Cond.fieldLink RX10 11 (TX10 2).1 (TX10 2).2.1 (TX10 2).2.2.1 ∈ lw_g := lw_c3 17 rfl rfl
theorem fg_10_11 : xFL RX10 11 10 2 := ⟨RX10, TX10, 7, rfl, Nat.le_of_ble_eq_true rfl, igX10, fl_10_11⟩
set_option maxRecDepth 20000 in
theorem fl_10_15 : Cond.fieldLink RX10 15 (TX10 3).1 (TX10 3).2.1 (TX10 3).2.2.1 ∈ lw_g := lw_c3 18 rfl rfl
theorem fg_10_15 : xFL RX10 15 10 3 := ⟨RX10, TX10, 7, rfl, Nat.le_of_ble_eq_true rfl, igX10, fl_10_15⟩
set_option maxRecDepth 20000 in
theorem fl_10_18 : Cond.fieldLink RX10 18 (TX10 4).1 (TX10 4).2.1 (TX10 4).2.2.1 ∈ lw_g := lw_c3 19 rfl rfl
theorem fg_10_18 : xFL RX10 18 10 4 := ⟨RX10, TX10, 7, rfl, Nat.le_of_ble_eq_true rfl, igX10, fl_10_18⟩
set_option maxRecDepth 20000 in
theorem fl_10_21 : Cond.fieldLink RX10 21 (TX10 5).1 (TX10 5).2.1 (TX10 5).2.2.1 ∈ lw_g := lw_c3 20 rfl rfl
theorem fg_10_21 : xFL RX10 21 10 5 := ⟨RX10, TX10, 7, rfl, Nat.le_of_ble_eq_true rfl, igX10, fl_10_21⟩
set_option maxRecDepth 20000 in
theorem fl_10_24 : Cond.fieldLink RX10 24 (TX10 6).1 (TX10 6).2.1 (TX10 6).2.2.1 ∈ lw_g := lw_c3 22 rfl rfl
theorem fg_10_24 : xFL RX10 24 10 6 := ⟨RX10, TX10, 7, rfl, Nat.le_of_ble_eq_true rfl, igX10, fl_10_24⟩
set_option maxRecDepth 20000 in
theorem fl_10_27 : Cond.fieldLink RX10 27 (TX10 0).1 (TX10 0).2.1 (TX10 0).2.2.1 ∈ lw_g := lw_c3 13 rfl rfl
theorem fg_10_27 : xFL RX10 27 10 0 := ⟨RX10, TX10, 7, rfl, Nat.le_of_ble_eq_true rfl, igX10, fl_10_27⟩
theorem fp_10_27 : xFP RX10 27 10 0 .int := ⟨RX10, TX10, 7, tyX10, rfl, Nat.le_of_ble_eq_true rfl, igX10, fl_10_27, tyX10_ok, nmX10, rfl, tyX10_ok 0 (Nat.le_of_ble_eq_true rfl)⟩
set_option maxRecDepth 20000 in
theorem fl_10_31 : Cond.fieldLink RX10 31 (TX10 1).1 (TX10 1).2.1 (TX10 1).2.2.1 ∈ lw_g := lw_c3 15 rfl rfl
theorem fg_10_31 : xFL RX10 31 10 1 := ⟨RX10, TX10, 7, rfl, Nat.le_of_ble_eq_true rfl, igX10, fl_10_31⟩
theorem fp_10_31 : xFP RX10 31 10 1 .int := ⟨RX10, TX10, 7, tyX10, rfl, Nat.le_of_ble_eq_true rfl, igX10, fl_10_31, tyX10_ok, nmX10, rfl, tyX10_ok 1 (Nat.le_of_ble_eq_true rfl)⟩
set_option maxRecDepth 20000 in
theorem fl_10_34 : Cond.fieldLink RX10 34 (TX6 0).1 (TX6 0).2.1 (TX6 0).2.2.1 ∈ lw_g := lw_c1 109 rfl rfl
theorem fg_10_34 : xFL RX10 34 6 0 := ⟨RX6, TX6, 10, rfl, Nat.le_of_ble_eq_true rfl, igX6, fl_10_34⟩
set_option maxRecDepth 20000 in
theorem fl_11_10 : Cond.fieldLink RX11 10 (TX11 0).1 (TX11 0).2.1 (TX11 0).2.2.1 ∈ lw_g := lw_c3 39 rfl rfl
theorem fg_11_10 : xFL RX11 10 11 0 := ⟨RX11, TX11, 13, rfl, Nat.le_of_ble_eq_true rfl, igX11, fl_11_10⟩
set_option maxRecDepth 20000 in
theorem fl_11_19 : Cond.fieldLink RX11 19 (TX11 1).1 (TX11 1).2.1 (TX11 1).2.2.1 ∈ lw_g := lw_c3 40 rfl rfl
theorem fg_11_19 : xFL RX11 19 11 1 := ⟨RX11, TX11, 13, rfl, Nat.le_of_ble_eq_true rfl, igX11, fl_11_19⟩
set_option maxRecDepth 20000 in
theorem fl_11_23 : Cond.fieldLink RX11 23 (TX11 2).1 (TX11 2).2.1 (TX11 2).2.2.1 ∈ lw_g := lw_c3 41 rfl rfl
theorem fg_11_23 : xFL RX11 23 11 2 := ⟨RX11, TX11, 13, rfl, Nat.le_of_ble_eq_true rfl, igX11, fl_11_23⟩
set_option maxRecDepth 20000 in
theorem fl_11_31 : Cond.fieldLink RX11 31 (TX11 3).1 (TX11 3).2.1 (TX11 3).2.2.1 ∈ lw_g := lw_c3 42 rfl rfl
theorem fg_11_31 : xFL RX11 31 11 3 := ⟨RX11, TX11, 13, rfl, Nat.le_of_ble_eq_true rfl, igX11, fl_11_31⟩
set_option maxRecDepth 20000 in
theorem fl_11_40 : Cond.fieldLink RX11 40 (TX11 4).1 (TX11 4).2.1 (TX11 4).2.2.1 ∈ lw_g := lw_c3 43 rfl rfl
theorem fg_11_40 : xFL RX11 40 11 4 := ⟨RX11, TX11, 13, rfl, Nat.le_of_ble_eq_true rfl, igX11, fl_11_40⟩
set_option maxRecDepth 20000 in
theorem fl_11_47 : Cond.fieldLink RX11 47 (TX11 5).1 (TX11 5).2.1 (TX11 5).2.2.1 ∈ lw_g := lw_c3 44 rfl rfl
theorem fg_11_47 : xFL RX11 47 11 5 := ⟨RX11, TX11, 13, rfl, Nat.le_of_ble_eq_true rfl, igX11, fl_11_47⟩
set_option maxRecDepth 20000 in
theorem fl_11_56 : Cond.fieldLink RX11 56 (TX11 6).1 (TX11 6).2.1 (TX11 6).2.2.1 ∈ lw_g := lw_c3 45 rfl rfl
theorem fg_11_56 : xFL RX11 56 11 6 := ⟨RX11, TX11, 13, rfl, Nat.le_of_ble_eq_true rfl, igX11, fl_11_56⟩
set_option maxRecDepth 20000 in
theorem fl_11_63 : Cond.fieldLink RX11 63 (TX11 7).1 (TX11 7).2.1 (TX11 7).2.2.1 ∈ lw_g := lw_c3 46 rfl rfl
theorem fg_11_63 : xFL RX11 63 11 7 := ⟨RX11, TX11, 13, rfl, Nat.le_of_ble_eq_true rfl, igX11, fl_11_63⟩
set_option maxRecDepth 20000 in
theorem fl_11_72 : Cond.fieldLink RX11 72 (TX11 8).1 (TX11 8).2.1 (TX11 8).2.2.1 ∈ lw_g := lw_c3 47 rfl rfl
theorem fg_11_72 : xFL RX11 72 11 8 := ⟨RX11, TX11, 13, rfl, Nat.le_of_ble_eq_true rfl, igX11, fl_11_72⟩
set_option maxRecDepth 20000 in
theorem fl_11_81 : Cond.fieldLink RX11 81 (TX11 9).1 (TX11 9).2.1 (TX11 9).2.2.1 ∈ lw_g := lw_c3 48 rfl rfl
theorem fg_11_81 : xFL RX11 81 11 9 := ⟨RX11, TX11, 13, rfl, Nat.le_of_ble_eq_true rfl, igX11, fl_11_81⟩
set_option maxRecDepth 20000 in
theorem fl_11_90 : Cond.fieldLink RX11 90 (TX11 10).1 (TX11 10).2.1 (TX11 10).2.2.1 ∈ lw_g := lw_c3 49 rfl rfl
theorem fg_11_90 : xFL RX11 90 11 10 := ⟨RX11, TX11, 13, rfl, Nat.le_of_ble_eq_true rfl, igX11, fl_11_90⟩
set_option maxRecDepth 20000 in
theorem fl_11_97 : Cond.fieldLink RX11 97 (TX11 11).1 (TX11 11).2.1 (TX11 11).2.2.1 ∈ lw_g := lw_c3 50 rfl rfl
theorem fg_11_97 : xFL RX11 97 11 11 := ⟨RX11, TX11, 13, rfl, Nat.le_of_ble_eq_true rfl, igX11, fl_11_97⟩
set_option maxRecDepth 20000 in
theorem fl_11_101 : Cond.fieldLink RX11 101 (TX8 1).1 (TX8 1).2.1 (TX8 1).2.2.1 ∈ lw_g := lw_c1 36 rfl rfl
theorem fg_11_101 : xFL RX11 101 8 1 := ⟨RX8, TX8, 13, rfl, Nat.le_of_ble_eq_true rfl, igX8, fl_11_101⟩
theorem fp_11_101 : xFP RX11 101 8 1 .int := ⟨RX8, TX8, 13, tyX8, rfl, Nat.le_of_ble_eq_true rfl, igX8, fl_11_101, tyX8_ok, nmX8, rfl, tyX8_ok 1 (Nat.le_of_ble_eq_true rfl)⟩
set_option maxRecDepth 20000 in
theorem fl_11_135 : Cond.fieldLink RX11 135 (TX8 11).1 (TX8 11).2.1 (TX8 11).2.2.1 ∈ lw_g := lw_c1 66 rfl rfl
theorem fg_11_135 : xFL RX11 135 8 11 := ⟨RX8, TX8, 13, rfl, Nat.le_of_ble_eq_true rfl, igX8, fl_11_135⟩
set_option maxRecDepth 20000 in
theorem fl_11_138 : Cond.fieldLink RX11 138 (TX8 12).1 (TX8 12).2.1 (TX8 12).2.2.1 ∈ lw_g := lw_c1 68 rfl rfl
theorem fg_11_138 : xFL RX11 138 8 12 := ⟨RX8, TX8, 13, rfl, Nat.le_of_ble_eq_true rfl, igX8, fl_11_138⟩
set_option maxRecDepth 20000 in
theorem fl_11_141 : Cond.fieldLink RX11 141 (TX6 0).1 (TX6 0).2.1 (TX6 0).2.2.1 ∈ lw_g := lw_c1 110 rfl rfl
theorem fg_11_141 : xFL RX11 141 6 0 := ⟨RX6, TX6, 10, rfl, Nat.le_of_ble_eq_true rfl, igX6, fl_11_141⟩
set_option maxRecDepth 20000 in
theorem fl_11_142 : Cond.fieldLink RX11 142 (TX6 8).1 (TX6 8).2.1 (TX6 8).2.2.1 ∈ lw_g := lw_c1 136 rfl rfl
theorem fg_11_142 : xFL RX11 142 6 8 := ⟨RX6, TX6, 10, rfl, Nat.le_of_ble_eq_true rfl, igX6, fl_11_142⟩
set_option maxRecDepth 20000 in
theorem fl_11_150 : Cond.fieldLink RX11 150 (TX6 2).1 (TX6 2).2.1 (TX6 2).2.2.1 ∈ lw_g := lw_c1 117 rfl rfl
theorem fg_11_150 : xFL RX11 150 6 2 := ⟨RX6, TX6, 10, rfl, Nat.le_of_ble_eq_true rfl, igX6, fl_11_150⟩
set_option maxRecDepth 20000 in
theorem fl_11_153 : Cond.fieldLink RX11 153 (TX6 3).1 (TX6 3).2.1 (TX6 3).2.2.1 ∈ lw_g := lw_c1 121 rfl rfl
theorem fg_11_153 : xFL RX11 153 6 3 := ⟨RX6, TX6, 10, rfl, Nat.le_of_ble_eq_true rfl, igX6, fl_11_153⟩
set_option maxRecDepth 20000 in
theorem fl_11_156 : Cond.fieldLink RX11 156 (TX6 4).1 (TX6 4).2.1 (TX6 4).2.2.1 ∈ lw_g := lw_c1 124 rfl rfl
theorem fg_11_156 : xFL RX11 156 6 4 := ⟨RX6, TX6, 10, rfl, Nat.le_of_ble_eq_true rfl, igX6, fl_11_156⟩
set_option maxRecDepth 20000 in
theorem fl_11_159 : Cond.fieldLink RX11 159 (TX6 5).1 (TX6 5).2.1 (TX6 5).2.2.1 ∈ lw_g := lw_c1 127 rfl rfl
theorem fg_11_159 : xFL RX11 159 6 5 := ⟨RX6, TX6, 10, rfl, Nat.le_of_ble_eq_true rfl, igX6, fl_11_159⟩
set_option maxRecDepth 20000 in
theorem fl_11_162 : Cond.fieldLink RX11 162 (TX6 6).1 (TX6 6).2.1 (TX6 6).2.2.1 ∈ lw_g := lw_c1 131 rfl rfl
theorem fg_11_162 : xFL RX11 162 6 6 := ⟨RX6, TX6, 10, rfl, Nat.le_of_ble_eq_true rfl, igX6, fl_11_162⟩
set_option maxRecDepth 20000 in
theorem fl_11_172 : Cond.fieldLink RX11 172 (TX8 3).1 (TX8 3).2.1 (TX8 3).2.2.1 ∈ lw_g := lw_c1 43 rfl rfl
theorem fg_11_172 : xFL RX11 172 8 3 := ⟨RX8, TX8, 13, rfl, Nat.le_of_ble_eq_true rfl, igX8, fl_11_172⟩
set_option maxRecDepth 20000 in
theorem fl_11_175 : Cond.fieldLink RX11 175 (TX8 6).1 (TX8 6).2.1 (TX8 6).2.2.1 ∈ lw_g := lw_c1 53 rfl rfl
theorem fg_11_175 : xFL RX11 175 8 6 := ⟨RX8, TX8, 13, rfl, Nat.le_of_ble_eq_true rfl, igX8, fl_11_175⟩
set_option maxRecDepth 20000 in
theorem fl_11_189 : Cond.fieldLink RX11 189 (TX1 2).1 (TX1 2).2.1 (TX1 2).2.2.1 ∈ lw_g := lw_c1 201 rfl rfl
theorem fg_11_189 : xFL RX11 189 1 2 := ⟨RX1, TX1, 15, rfl, Nat.le_of_ble_eq_true rfl, igX1, fl_11_189⟩
set_option maxRecDepth 20000 in
theorem fl_11_190 : Cond.fieldLink RX11 190 (TX1 3).1 (TX1 3).2.1 (TX1 3).2.2.1 ∈ lw_g := lw_c1 203 rfl rfl
theorem fg_11_190 : xFL RX11 190 1 3 := ⟨RX1, TX1, 15, rfl, Nat.le_of_ble_eq_true rfl, igX1, fl_11_190⟩
set_option maxRecDepth 20000 in
theorem fl_11_203 : Cond.fieldLink RX11 203 (TX1 4).1 (TX1 4).2.1 (TX1 4).2.2.1 ∈ lw_g := lw_c1 205 rfl rfl
theorem fg_11_203 : xFL RX11 203 1 4 := ⟨RX1, TX1, 15, rfl, Nat.le_of_ble_eq_true rfl, igX1, fl_11_203⟩
set_option maxRecDepth 20000 in
theorem fl_11_216 : Cond.fieldLink RX11 216 (TX1 5).1 (TX1 5).2.1 (TX1 5).2.2.1 ∈ lw_g := lw_c1 207 rfl rfl
theorem fg_11_216 : xFL RX11 216 1 5 := ⟨RX1, TX1, 15, rfl, Nat.le_of_ble_eq_true rfl, igX1, fl_11_216⟩
set_option maxRecDepth 20000 in
theorem fl_11_219 : Cond.fieldLink RX11 219 (TX1 6).1 (TX1 6).2.1 (TX1 6).2.2.1 ∈ lw_g := lw_c1 209 rfl rfl
theorem fg_11_219 : xFL RX11 219 1 6 := ⟨RX1, TX1, 15, rfl, Nat.le_of_ble_eq_true rfl, igX1, fl_11_219⟩
set_option maxRecDepth 20000 in
theorem fl_11_222 : Cond.fieldLink RX11 222 (TX1 7).1 (TX1 7).2.1 (TX1 7).2.2.1 ∈ lw_g := lw_c1 211 rfl rfl
theorem fg_11_222 : xFL RX11 222 1 7 := ⟨RX1, TX1, 15, rfl, Nat.le_of_ble_eq_true rfl, igX1, fl_11_222⟩
set_option maxRecDepth 20000 in
theorem fl_11_225 : Cond.fieldLink RX11 225 (TX11 12).1 (TX11 12).2.1 (TX11 12).2.2.1 ∈ lw_g := lw_c3 51 rfl rfl
theorem fg_11_225 : xFL RX11 225 11 12 := ⟨RX11, TX11, 13, rfl, Nat.le_of_ble_eq_true rfl, igX11, fl_11_225⟩
theorem fp_11_225 : xFP RX11 225 11 12 .boolean := ⟨RX11, TX11, 13, tyX11, rfl, Nat.le_of_ble_eq_true rfl, igX11, fl_11_225, tyX11_ok, nmX11, rfl, tyX11_ok 12 (Nat.le_of_ble_eq_true rfl)⟩
set_option maxRecDepth 20000 in
theorem fl_11_244 : Cond.fieldLink RX11 244 (TX9 3).1 (TX9 3).2.1 (TX9 3).2.2.1 ∈ lw_g := lw_c2 26 rfl rfl
theorem fg_11_244 : xFL RX11 244 9 3 := ⟨RX9, TX9, 5, rfl, Nat.le_of_ble_eq_true rfl, igX9, fl_11_244⟩
set_option maxRecDepth 20000 in
theorem fl_11_245 : Cond.fieldLink RX11 245 (TX9 4).1 (TX9 4).2.1 (TX9 4).2.2.1 ∈ lw_g := lw_c2 29 rfl rfl
theorem fg_11_245 : xFL RX11 245 9 4 := ⟨RX9, TX9, 5, rfl, Nat.le_of_ble_eq_true rfl, igX9, fl_11_245⟩
set_option maxRecDepth 20000 in
theorem fl_11_248 : Cond.fieldLink RX11 248 (TX9 2).1 (TX9 2).2.1 (TX9 2).2.2.1 ∈ lw_g := lw_c2 23 rfl rfl
theorem fg_11_248 : xFL RX11 248 9 2 := ⟨RX9, TX9, 5, rfl, Nat.le_of_ble_eq_true rfl, igX9, fl_11_248⟩
set_option maxRecDepth 20000 in
theorem fl_11_260 : Cond.fieldLink RX11 260 (TX5 4).1 (TX5 4).2.1 (TX5 4).2.2.1 ∈ lw_g := lw_c2 165 rfl rfl
theorem fg_11_260 : xFL RX11 260 5 4 := ⟨RX5, TX5, 14, rfl, Nat.le_of_ble_eq_true rfl, igX5, fl_11_260⟩
set_option maxRecDepth 20000 in
theorem fl_11_261 : Cond.fieldLink RX11 261 (TX5 3).1 (TX5 3).2.1 (TX5 3).2.2.1 ∈ lw_g := lw_c2 163 rfl rfl
theorem fg_11_261 : xFL RX11 261 5 3 := ⟨RX5, TX5, 14, rfl, Nat.le_of_ble_eq_true rfl, igX5, fl_11_261⟩
set_option maxRecDepth 20000 in
theorem fl_11_279 : Cond.fieldLink RX11 279 (TX5 11).1 (TX5 11).2.1 (TX5 11).2.2.1 ∈ lw_g := lw_c2 173 rfl rfl
theorem fg_11_279 : xFL RX11 279 5 11 := ⟨RX5, TX5, 14, rfl, Nat.le_of_ble_eq_true rfl, igX5, fl_11_279⟩
set_option maxRecDepth 20000 in
theorem fl_11_282 : Cond.fieldLink RX11 282 (TX5 12).1 (TX5 12).2.1 (TX5 12).2.2.1 ∈ lw_g := lw_c2 175 rfl rfl
theorem fg_11_282 : xFL RX11 282 5 12 := ⟨RX5, TX5, 14, rfl, Nat.le_of_ble_eq_true rfl, igX5, fl_11_282⟩
set_option maxRecDepth 20000 in
theorem fl_11_285 : Cond.fieldLink RX11 285 (TX5 13).1 (TX5 13).2.1 (TX5 13).2.2.1 ∈ lw_g := lw_c2 177 rfl rfl
theorem fg_11_285 : xFL RX11 285 5 13 := ⟨RX5, TX5, 14, rfl, Nat.le_of_ble_eq_true rfl, igX5, fl_11_285⟩
set_option maxRecDepth 20000 in
theorem fl_11_295 : Cond.fieldLink RX11 295 (TX3 4).1 (TX3 4).2.1 (TX3 4).2.2.1 ∈ lw_g := lw_c2 84 rfl rfl
theorem fg_11_295 : xFL RX11 295 3 4 := ⟨RX3, TX3, 7, rfl, Nat.le_of_ble_eq_true rfl, igX3, fl_11_295⟩
set_option maxRecDepth 20000 in
theorem fl_11_298 : Cond.fieldLink RX11 298 (TX3 5).1 (TX3 5).2.1 (TX3 5).2.2.1 ∈ lw_g := lw_c2 86 rfl rfl
theorem fg_11_298 : xFL RX11 298 3 5 := ⟨RX3, TX3, 7, rfl, Nat.le_of_ble_eq_true rfl, igX3, fl_11_298⟩
set_option maxRecDepth 20000 in
theorem fl_11_301 : Cond.fieldLink RX11 301 (TX3 6).1 (TX3 6).2.1 (TX3 6).2.2.1 ∈ lw_g := lw_c2 88 rfl rfl
theorem fg_11_301 : xFL RX11 301 3 6 := ⟨RX3, TX3, 7, rfl, Nat.le_of_ble_eq_true rfl, igX3, fl_11_301⟩
set_option maxRecDepth 20000 in
theorem fl_11_304 : Cond.fieldLink RX11 304 (TX4 2).1 (TX4 2).2.1 (TX4 2).2.2.1 ∈ lw_g := lw_c2 217 rfl rfl
theorem fg_11_304 : xFL RX11 304 4 2 := ⟨RX4, TX4, 9, rfl, Nat.le_of_ble_eq_true rfl, igX4, fl_11_304⟩
theorem fp_11_304 : xFP RX11 304 4 2 .int := ⟨RX4, TX4, 9, tyX4, rfl, Nat.le_of_ble_eq_true rfl, igX4, fl_11_304, tyX4_ok, nmX4, rfl, tyX4_ok 2 (Nat.le_of_ble_eq_true rfl)⟩
set_option maxRecDepth 20000 in
theorem fl_11_307 : Cond.fieldLink RX11 307 (TX4 1).1 (TX4 1).2.1 (TX4 1).2.2.1 ∈ lw_g := lw_c2 215 rfl rfl
theorem fg_11_307 : xFL RX11 307 4 1 := ⟨RX4, TX4, 9, rfl, Nat.le_of_ble_eq_true rfl, igX4, fl_11_307⟩
set_option maxRecDepth 20000 in
theorem fl_11_317 : Cond.fieldLink RX11 317 (TX4 5).1 (TX4 5).2.1 (TX4 5).2.2.1 ∈ lw_g := lw_c2 221 rfl rfl
theorem fg_11_317 : xFL RX11 317 4 5 := ⟨RX4, TX4, 9, rfl, Nat.le_of_ble_eq_true rfl, igX4, fl_11_317⟩
set_option maxRecDepth 20000 in
theorem fl_11_320 : Cond.fieldLink RX11 320 (TX4 7).1 (TX4 7).2.1 (TX4 7).2.2.1 ∈ lw_g := lw_c2 225 rfl rfl
theorem fg_11_320 : xFL RX11 320 4 7 := ⟨RX4, TX4, 9, rfl, Nat.le_of_ble_eq_true rfl, igX4, fl_11_320⟩
set_option maxRecDepth 20000 in
theorem fl_11_323 : Cond.fieldLink RX11 323 (TX4 6).1 (TX4 6).2.1 (TX4 6).2.2.1 ∈ lw_g := lw_c2 223 rfl rfl
theorem fg_11_323 : xFL RX11 323 4 6 := ⟨RX4, TX4, 9, rfl, Nat.le_of_ble_eq_true rfl, igX4, fl_11_323⟩
set_option maxRecDepth 20000 in
theorem fl_11_326 : Cond.fieldLink RX11 326 (TX4 8).1 (TX4 8).2.1 (TX4 8).2.2.1 ∈ lw_g := lw_c2 227 rfl rfl
theorem fg_11_326 : xFL RX11 326 4 8 := ⟨RX4, TX4, 9, rfl, Nat.le_of_ble_eq_true rfl, igX4, fl_11_326⟩
set_option maxRecDepth 20000 in
theorem fl_11_353 : Cond.fieldLink RX11 353 (TX8 7).1 (TX8 7).2.1 (TX8 7).2.2.1 ∈ lw_g := lw_c1 59 rfl rfl
theorem fg_11_353 : xFL RX11 353 8 7 := ⟨RX8, TX8, 13, rfl, Nat.le_of_ble_eq_true rfl, igX8, fl_11_353⟩
set_option maxRecDepth 20000 in
theorem fl_11_355 : Cond.fieldLink RX11 355 (TX8 5).1 (TX8 5).2.1 (TX8 5).2.2.1 ∈ lw_g := lw_c1 49 rfl rfl
theorem fg_11_355 : xFL RX11 355 8 5 := ⟨RX8, TX8, 13, rfl, Nat.le_of_ble_eq_true rfl, igX8, fl_11_355⟩
set_option maxRecDepth 20000 in
theorem fl_11_358 : Cond.fieldLink RX11 358 (TX10 1).1 (TX10 1).2.1 (TX10 1).2.2.1 ∈ lw_g := lw_c3 16 rfl rfl
theorem fg_11_358 : xFL RX11 358 10 1 := ⟨RX10, TX10, 7, rfl, Nat.le_of_ble_eq_true rfl, igX10, fl_11_358⟩
set_option maxRecDepth 20000 in
theorem fl_11_361 : Cond.fieldLink RX11 361 (TX10 0).1 (TX10 0).2.1 (TX10 0).2.2.1 ∈ lw_g := lw_c3 14 rfl rfl
theorem fg_11_361 : xFL RX11 361 10 0 := ⟨RX10, TX10, 7, rfl, Nat.le_of_ble_eq_true rfl, igX10, fl_11_361⟩
set_option maxRecDepth 20000 in
theorem fl_11_373 : Cond.fieldLink RX11 373 (TX10 6).1 (TX10 6).2.1 (TX10 6).2.2.1 ∈ lw_g := lw_c3 23 rfl rfl
theorem fg_11_373 : xFL RX11 373 10 6 := ⟨RX10, TX10, 7, rfl, Nat.le_of_ble_eq_true rfl, igX10, fl_11_373⟩
set_option maxRecDepth 20000 in
theorem fl_11_374 : Cond.fieldLink RX11 374 (TX10 5).1 (TX10 5).2.1 (TX10 5).2.2.1 ∈ lw_g := lw_c3 21 rfl rfl
theorem fg_11_374 : xFL RX11 374 10 5 := ⟨RX10, TX10, 7, rfl, Nat.le_of_ble_eq_true rfl, igX10, fl_11_374⟩
set_option maxRecDepth 20000 in
theorem fl_11_375 : Cond.fieldLink RX11 375 (TX9 0).1 (TX9 0).2.1 (TX9 0).2.2.1 ∈ lw_g := lw_c2 18 rfl rfl
theorem fg_11_375 : xFL RX11 375 9 0 := ⟨RX9, TX9, 5, rfl, Nat.le_of_ble_eq_true rfl, igX9, fl_11_375⟩
set_option maxRecDepth 20000 in
theorem fl_12_7 : Cond.fieldLink RX12 7 (TX12 0).1 (TX12 0).2.1 (TX12 0).2.2.1 ∈ lw_g := lw_c6 187 rfl rfl
theorem fg_12_7 : xFL RX12 7 12 0 := ⟨RX12, TX12, 103, rfl, Nat.le_of_ble_eq_true rfl, igX12, fl_12_7⟩
set_option maxRecDepth 20000 in
theorem fl_12_13 : Cond.fieldLink RX12 13 (TX12 9).1 (TX12 9).2.1 (TX12 9).2.2.1 ∈ lw_g := lw_c6 196 rfl rfl
theorem fg_12_13 : xFL RX12 13 12 9 := ⟨RX12, TX12, 103, rfl, Nat.le_of_ble_eq_true rfl, igX12, fl_12_13⟩
theorem fp_12_13 : xFP RX12 13 12 9 .int := ⟨RX12, TX12, 103, tyX12, rfl, Nat.le_of_ble_eq_true rfl, igX12, fl_12_13, tyX12_ok, nmX12, rfl, tyX12_ok 9 (Nat.le_of_ble_eq_true rfl)⟩
set_option maxRecDepth 20000 in
theorem fl_12_17 : Cond.fieldLink RX12 17 (TX12 12).1 (TX12 12).2.1 (TX12 12).2.2.1 ∈ lw_g := lw_c6 199 rfl rfl
theorem fg_12_17 : xFL RX12 17 12 12 := ⟨RX12, TX12, 103, rfl, Nat.le_of_ble_eq_true rfl, igX12, fl_12_17⟩
set_option maxRecDepth 20000 in
theorem fl_12_21 : Cond.fieldLink RX12 21 (TX12 13).1 (TX12 13).2.1 (TX12 13).2.2.1 ∈ lw_g := lw_c6 200 rfl rfl
theorem fg_12_21 : xFL RX12 21 12 13 := ⟨RX12, TX12, 103, rfl, Nat.le_of_ble_eq_true rfl, igX12, fl_12_21⟩
set_option maxRecDepth 20000 in
theorem fl_12_24 : Cond.fieldLink RX12 24 (TX12 14).1 (TX12 14).2.1 (TX12 14).2.2.1 ∈ lw_g := lw_c6 201 rfl rfl
theorem fg_12_24 : xFL RX12 24 12 14 := ⟨RX12, TX12, 103, rfl, Nat.le_of_ble_eq_true rfl, igX12, fl_12_24⟩
set_option maxRecDepth 20000 in
theorem fl_12_28 : Cond.fieldLink RX12 28 (TX12 15).1 (TX12 15).2.1 (TX12 15).2.2.1 ∈ lw_g := lw_c6 202 rfl rfl
theorem fg_12_28 : xFL RX12 28 12 15 := ⟨RX12, TX12, 103, rfl, Nat.le_of_ble_eq_true rfl, igX12, fl_12_28⟩
set_option maxRecDepth 20000 in
theorem fl_12_31 : Cond.fieldLink RX12 31 (TX12 16).1 (TX12 16).2.1 (TX12 16).2.2.1 ∈ lw_g := lw_c6 203 rfl rfl
theorem fg_12_31 : xFL RX12 31 12 16 := ⟨RX12, TX12, 103, rfl, Nat.le_of_ble_eq_true rfl, igX12, fl_12_31⟩
set_option maxRecDepth 20000 in
theorem fl_12_34 : Cond.fieldLink RX12 34 (TX12 17).1 (TX12 17).2.1 (TX12 17).2.2.1 ∈ lw_g := lw_c6 204 rfl rfl
theorem fg_12_34 : xFL RX12 34 12 17 := ⟨RX12, TX12, 103, rfl, Nat.le_of_ble_eq_true rfl, igX12, fl_12_34⟩
set_option maxRecDepth 20000 in
theorem fl_12_37 : Cond.fieldLink RX12 37 (TX12 18).1 (TX12 18).2.1 (TX12 18).2.2.1 ∈ lw_g := lw_c6 205 rfl rfl
theorem fg_12_37 : xFL RX12 37 12 18 := ⟨RX12, TX12, 103, rfl, Nat.le_of_ble_eq_true rfl, igX12, fl_12_37⟩
set_option maxRecDepth 20000 in
theorem fl_12_40 : Cond.fieldLink RX12 40 (TX12 19).1 (TX12 19).2.1 (TX12 19).2.2.1 ∈ lw_g := lw_c6 206 rfl rfl
theorem fg_12_40 : xFL RX12 40 12 19 := ⟨RX12, TX12, 103, rfl, Nat.le_of_ble_eq_true rfl, igX12, fl_12_40⟩
set_option maxRecDepth 20000 in
theorem fl_12_43 : Cond.fieldLink RX12 43 (TX12 20).1 (TX12 20).2.1 (TX12 20).2.2.1 ∈ lw_g := lw_c6 207 rfl rfl
theorem fg_12_43 : xFL RX12 43 12 20 := ⟨RX12, TX12, 103, rfl, Nat.le_of_ble_eq_true rfl, igX12, fl_12_43⟩
set_option maxRecDepth 20000 in
theorem fl_12_46 : Cond.fieldLink RX12 46 (TX12 22).1 (TX12 22).2.1 (TX12 22).2.2.1 ∈ lw_g := lw_c6 209 rfl rfl
theorem fg_12_46 : xFL RX12 46 12 22 := ⟨RX12, TX12, 103, rfl, Nat.le_of_ble_eq_true rfl, igX12, fl_12_46⟩
set_option maxRecDepth 20000 in
theorem fl_12_49 : Cond.fieldLink RX12 49 (TX12 23).1 (TX12 23).2.1 (TX12 23).2.2.1 ∈ lw_g := lw_c6 210 rfl rfl
theorem fg_12_49 : xFL RX12 49 12 23 := ⟨RX12, TX12, 103, rfl, Nat.le_of_ble_eq_true rfl, igX12, fl_12_49⟩
set_option maxRecDepth 20000 in
theorem fl_12_52 : Cond.fieldLink RX12 52 (TX12 24).1 (TX12 24).2.1 (TX12 24).2.2.1 ∈ lw_g := lw_c6 211 rfl rfl
theorem fg_12_52 : xFL RX12 52 12 24 := ⟨RX12, TX12, 103, rfl, Nat.le_of_ble_eq_true rfl, igX12, fl_12_52⟩
set_option maxRecDepth 20000 in
theorem fl_12_55 : Cond.fieldLink RX12 55 (TX12 25).1 (TX12 25).2.1 (TX12 25).2.2.1 ∈ lw_g := lw_c6 212 rfl rfl
theorem fg_12_55 : xFL RX12 55 12 25 := ⟨RX12, TX12, 103, rfl, Nat.le_of_ble_eq_true rfl, igX12, fl_12_55⟩
set_option maxRecDepth 20000 in
theorem fl_12_58 : Cond.fieldLink RX12 58 (TX12 26).1 (TX12 26).2.1 (TX12 26).2.2.1 ∈ lw_g := lw_c6 213 rfl rfl
theorem fg_12_58 : xFL RX12 58 12 26 := ⟨RX12, TX12, 103, rfl, Nat.le_of_ble_eq_true rfl, igX12, fl_12_58⟩
set_option maxRecDepth 20000 in
theorem fl_12_61 : Cond.fieldLink RX12 61 (TX12 27).1 (TX12 27).2.1 (TX12 27).2.2.1 ∈ lw_g := lw_c6 214 rfl rfl
theorem fg_12_61 : xFL RX12 61 12 27 := ⟨RX12, TX12, 103, rfl, Nat.le_of_ble_eq_true rfl, igX12, fl_12_61⟩
set_option maxRecDepth 20000 in
theorem fl_12_64 : Cond.fieldLink RX12 64 (TX12 28).1 (TX12 28).2.1 (TX12 28).2.2.1 ∈ lw_g := lw_c6 215 rfl rfl
theorem fg_12_64 : xFL RX12 64 12 28 := ⟨RX12, TX12, 103, rfl, Nat.le_of_ble_eq_true rfl, igX12, fl_12_64⟩
set_option maxRecDepth 20000 in
theorem fl_12_67 : Cond.fieldLink RX12 67 (TX12 29).1 (TX12 29).2.1 (TX12 29).2.2.1 ∈ lw_g := lw_c6 216 rfl rfl
theorem fg_12_67 : xFL RX12 67 12 29 := ⟨RX12, TX12, 103, rfl, Nat.le_of_ble_eq_true rfl, igX12, fl_12_67⟩
set_option maxRecDepth 20000 in
theorem fl_12_70 : Cond.fieldLink RX12 70 (TX12 30).1 (TX12 30).2.1 (TX12 30).2.2.1 ∈ lw_g := lw_c6 217 rfl rfl
theorem fg_12_70 : xFL RX12 70 12 30 := ⟨RX12, TX12, 103, rfl, Nat.le_of_ble_eq_true rfl, igX12, fl_12_70⟩
set_option maxRecDepth 20000 in
theorem fl_12_73 : Cond.fieldLink RX12 73 (TX12 37).1 (TX12 37).2.1 (TX12 37).2.2.1 ∈ lw_g := lw_c6 224 rfl rfl
theorem fg_12_73 : xFL RX12 73 12 37 := ⟨RX12, TX12, 103, rfl, Nat.le_of_ble_eq_true rfl, igX12, fl_12_73⟩
set_option maxRecDepth 20000 in
theorem fl_12_76 : Cond.fieldLink RX12 76 (TX12 38).1 (TX12 38).2.1 (TX12 38).2.2.1 ∈ lw_g := lw_c6 225 rfl rfl
theorem fg_12_76 : xFL RX12 76 12 38 := ⟨RX12, TX12, 103, rfl, Nat.le_of_ble_eq_true rfl, igX12, fl_12_76⟩
set_option maxRecDepth 20000 in
theorem fl_12_79 : Cond.fieldLink RX12 79 (TX12 39).1 (TX12 39).2.1 (TX12 39).2.2.1 ∈ lw_g := lw_c6 226 rfl rfl
theorem fg_12_79 : xFL RX12 79 12 39 := ⟨RX12, TX12, 103, rfl, Nat.le_of_ble_eq_true rfl, igX12, fl_12_79⟩
set_option maxRecDepth 20000 in
theorem fl_12_82 : Cond.fieldLink RX12 82 (TX12 40).1 (TX12 40).2.1 (TX12 40).2.2.1 ∈ lw_g := lw_c6 227 rfl rfl
theorem fg_12_82 : xFL RX12 82 12 40 := ⟨RX12, TX12, 103, rfl, Nat.le_of_ble_eq_true rfl, igX12, fl_12_82⟩
set_option maxRecDepth 20000 in
theorem fl_12_85 : Cond.fieldLink RX12 85 (TX12 41).1 (TX12 41).2.1 (TX12 41).2.2.1 ∈ lw_g := lw_c6 228 rfl rfl
theorem fg_12_85 : xFL RX12 85 12 41 := ⟨RX12, TX12, 103, rfl, Nat.le_of_ble_eq_true rfl, igX12, fl_12_85⟩
set_option maxRecDepth 20000 in
theorem fl_12_88 : Cond.fieldLink RX12 88 (TX12 42).1 (TX12 42).2.1 (TX12 42).2.2.1 ∈ lw_g := lw_c6 229 rfl rfl
theorem fg_12_88 : xFL RX12 88 12 42 := ⟨RX12, TX12, 103, rfl, Nat.le_of_ble_eq_true rfl, igX12, fl_12_88⟩
set_option maxRecDepth 20000 in
theorem fl_12_91 : Cond.fieldLink RX12 91 (TX12 43).1 (TX12 43).2.1 (TX12 43).2.2.1 ∈ lw_g := lw_c6 230 rfl rfl
theorem fg_12_91 : xFL RX12 91 12 43 := ⟨RX12, TX12, 103, rfl, Nat.le_of_ble_eq_true rfl, igX12, fl_12_91⟩
set_option maxRecDepth 20000 in
theorem fl_12_94 : Cond.fieldLink RX12 94 (TX12 44).1 (TX12 44).2.1 (TX12 44).2.2.1 ∈ lw_g := lw_c6 231 rfl rfl
theorem fg_12_94 : xFL RX12 94 12 44 := ⟨RX12, TX12, 103, rfl, Nat.le_of_ble_eq_true rfl, igX12, fl_12_94⟩
set_option maxRecDepth 20000 in
theorem fl_12_97 : Cond.fieldLink RX12 97 (TX12 45).1 (TX12 45).2.1 (TX12 45).2.2.1 ∈ lw_g := lw_c6 232 rfl rfl
theorem fg_12_97 : xFL RX12 97 12 45 := ⟨RX12, TX12, 103, rfl, Nat.le_of_ble_eq_true rfl, igX12, fl_12_97⟩
set_option maxRecDepth 20000 in
theorem fl_12_100 : Cond.fieldLink RX12 100 (TX12 47).1 (TX12 47).2.1 (TX12 47).2.2.1 ∈ lw_g := lw_c6 233 rfl rfl
theorem fg_12_100 : xFL RX12 100 12 47 := ⟨RX12, TX12, 103, rfl, Nat.le_of_ble_eq_true rfl, igX12, fl_12_100⟩
set_option maxRecDepth 20000 in
theorem fl_12_103 : Cond.fieldLink RX12 103 (TX12 50).1 (TX12 50).2.1 (TX12 50).2.2.1 ∈ lw_g := lw_c6 236 rfl rfl
theorem fg_12_103 : xFL RX12 103 12 50 := ⟨RX12, TX12, 103, rfl, Nat.le_of_ble_eq_true rfl, igX12, fl_12_103⟩
set_option maxRecDepth 20000 in
theorem fl_12_106 : Cond.fieldLink RX12 106 (TX12 51).1 (TX12 51).2.1 (TX12 51).2.2.1 ∈ lw_g := lw_c6 237 rfl rfl
theorem fg_12_106 : xFL RX12 106 12 51 := ⟨RX12, TX12, 103, rfl, Nat.le_of_ble_eq_true rfl, igX12, fl_12_106⟩
set_option maxRecDepth 20000 in
theorem fl_12_109 : Cond.fieldLink RX12 109 (TX12 52).1 (TX12 52).2.1 (TX12 52).2.2.1 ∈ lw_g := lw_c6 238 rfl rfl
theorem fg_12_109 : xFL RX12 109 12 52 := ⟨RX12, TX12, 103, rfl, Nat.le_of_ble_eq_true rfl, igX12, fl_12_109⟩
set_option maxRecDepth 20000 in
theorem fl_12_112 : Cond.fieldLink RX12 112 (TX12 53).1 (TX12 53).2.1 (TX12 53).2.2.1 ∈ lw_g := lw_c6 239 rfl rfl
theorem fg_12_112 : xFL RX12 112 12 53 := ⟨RX12, TX12, 103, rfl, Nat.le_of_ble_eq_true rfl, igX12, fl_12_112⟩
set_option maxRecDepth 20000 in
theorem fl_12_115 : Cond.fieldLink RX12 115 (TX12 54).1 (TX12 54).2.1 (TX12 54).2.2.1 ∈ lw_g := lw_c7 0 rfl rfl
theorem fg_12_115 : xFL RX12 115 12 54 := ⟨RX12, TX12, 103, rfl, Nat.le_of_ble_eq_true rfl, igX12, fl_12_115⟩
set_option maxRecDepth 20000 in
theorem fl_12_118 : Cond.fieldLink RX12 118 (TX12 55).1 (TX12 55).2.1 (TX12 55).2.2.1 ∈ lw_g := lw_c7 1 rfl rfl
theorem fg_12_118 : xFL RX12 118 12 55 := ⟨RX12, TX12, 103, rfl, Nat.le_of_ble_eq_true rfl, igX12, fl_12_118⟩
set_option maxRecDepth 20000 in
theorem fl_12_121 : Cond.fieldLink RX12 121 (TX12 56).1 (TX12 56).2.1 (TX12 56).2.2.1 ∈ lw_g := lw_c7 2 rfl rfl
theorem fg_12_121 : xFL RX12 121 12 56 := ⟨RX12, TX12, 103, rfl, Nat.le_of_ble_eq_true rfl, igX12, fl_12_121⟩
set_option maxRecDepth 20000 in
theorem fl_12_124 : Cond.fieldLink RX12 124 (TX12 57).1 (TX12 57).2.1 (TX12 57).2.2.1 ∈ lw_g := lw_c7 3 rfl rfl
theorem fg_12_124 : xFL RX12 124 12 57 := ⟨RX12, TX12, 103, rfl, Nat.le_of_ble_eq_true rfl, igX12, fl_12_124⟩
set_option maxRecDepth 20000 in
theorem fl_12_127 : Cond.fieldLink RX12 127 (TX12 58).1 (TX12 58).2.1 (TX12 58).2.2.1 ∈ lw_g := lw_c7 4 rfl rfl
theorem fg_12_127 : xFL RX12 127 12 58 := ⟨RX12, TX12, 103, rfl, Nat.le_of_ble_eq_true rfl, igX12, fl_12_127⟩
set_option maxRecDepth 20000 in
theorem fl_12_130 : Cond.fieldLink RX12 130 (TX12 59).1 (TX12 59).2.1 (TX12 59).2.2.1 ∈ lw_g := lw_c7 5 rfl rfl
theorem fg_12_130 : xFL RX12 130 12 59 := ⟨RX12, TX12, 103, rfl, Nat.le_of_ble_eq_true rfl, igX12, fl_12_130⟩
set_option maxRecDepth 20000 in
theorem fl_12_133 : Cond.fieldLink RX12 133 (TX12 64).1 (TX12 64).2.1 (TX12 64).2.2.1 ∈ lw_g := lw_c7 10 rfl rfl
theorem fg_12_133 : xFL RX12 133 12 64 := ⟨RX12, TX12, 103, rfl, Nat.le_of_ble_eq_true rfl, igX12, fl_12_133⟩
set_option maxRecDepth 20000 in
theorem fl_12_136 : Cond.fieldLink RX12 136 (TX12 65).1 (TX12 65).2.1 (TX12 65).2.2.1 ∈ lw_g := lw_c7 11 rfl rfl
theorem fg_12_136 : xFL RX12 136 12 65 := ⟨RX12, TX12, 103, rfl, Nat.le_of_ble_eq_true rfl, igX12, fl_12_136⟩
set_option maxRecDepth 20000 in
theorem fl_12_139 : Cond.fieldLink RX12 139 (TX12 66).1 (TX12 66).2.1 (TX12 66).2.2.1 ∈ lw_g := lw_c7 12 rfl rfl
theorem fg_12_139 : xFL RX12 139 12 66 := ⟨RX12, TX12, 103, rfl, Nat.le_of_ble_eq_true rfl, igX12, fl_12_139⟩
set_option maxRecDepth 20000 in
theorem fl_12_142 : Cond.fieldLink RX12 142 (TX12 67).1 (TX12 67).2.1 (TX12 67).2.2.1 ∈ lw_g := lw_c7 13 rfl rfl
theorem fg_12_142 : xFL RX12 142 12 67 := ⟨RX12, TX12, 103, rfl, Nat.le_of_ble_eq_true rfl, igX12, fl_12_142⟩
set_option maxRecDepth 20000 in
theorem fl_12_145 : Cond.fieldLink RX12 145 (TX12 70).1 (TX12 70).2.1 (TX12 70).2.2.1 ∈ lw_g := lw_c7 16 rfl rfl
theorem fg_12_145 : xFL RX12 145 12 70 := ⟨RX12, TX12, 103, rfl, Nat.le_of_ble_eq_true rfl, igX12, fl_12_145⟩
set_option maxRecDepth 20000 in
theorem fl_12_148 : Cond.fieldLink RX12 148 (TX12 71).1 (TX12 71).2.1 (TX12 71).2.2.1 ∈ lw_g := lw_c7 17 rfl rfl
theorem fg_12_148 : xFL RX12 148 12 71 := ⟨RX12, TX12, 103, rfl, Nat.le_of_ble_eq_true rfl, igX12, fl_12_148⟩
set_option maxRecDepth 20000 in
theorem fl_12_151 : Cond.fieldLink RX12 151 (TX12 72).1 (TX12 72).2.1 (TX12 72).2.2.1 ∈ lw_g := lw_c7 18 rfl rfl
theorem fg_12_151 : xFL RX12 151 12 72 := ⟨RX12, TX12, 103, rfl, Nat.le_of_ble_eq_true rfl, igX12, fl_12_151⟩
set_option maxRecDepth 20000 in
theorem fl_12_154 : Cond.fieldLink RX12 154 (TX12 73).1 (TX12 73).2.1 (TX12 73).2.2.1 ∈ lw_g := lw_c7 19 rfl rfl
theorem fg_12_154 : xFL RX12 154 12 73 := ⟨RX12, TX12, 103, rfl, Nat.le_of_ble_eq_true rfl, igX12, fl_12_154⟩
set_option maxRecDepth 20000 in
theorem fl_12_157 : Cond.fieldLink RX12 157 (TX12 75).1 (TX12 75).2.1 (TX12 75).2.2.1 ∈ lw_g := lw_c7 21 rfl rfl
theorem fg_12_157 : xFL RX12 157 12 75 := ⟨RX12, TX12, 103, rfl, Nat.le_of_ble_eq_true rfl, igX12, fl_12_157⟩
set_option maxRecDepth 20000 in
theorem fl_12_160 : Cond.fieldLink RX12 160 (TX12 76).1 (TX12 76).2.1 (TX12 76).2.2.1 ∈ lw_g := lw_c7 22 rfl rfl
theorem fg_12_160 : xFL RX12 160 12 76 := ⟨RX12, TX12, 103, rfl, Nat.le_of_ble_eq_true rfl, igX12, fl_12_160⟩
set_option maxRecDepth 20000 in
theorem fl_12_163 : Cond.fieldLink RX12 163 (TX12 77).1 (TX12 77).2.1 (TX12 77).2.2.1 ∈ lw_g := lw_c7 23 rfl rfl
theorem fg_12_163 : xFL RX12 163 12 77 := ⟨RX12, TX12, 103, rfl, Nat.le_of_ble_eq_true rfl, igX12, fl_12_163⟩
set_option maxRecDepth 20000 in
theorem fl_12_167 : Cond.fieldLink RX12 167 (TX12 78).1 (TX12 78).2.1 (TX12 78).2.2.1 ∈ lw_g := lw_c7 24 rfl rfl
theorem fg_12_167 : xFL RX12 167 12 78 := ⟨RX12, TX12, 103, rfl, Nat.le_of_ble_eq_true rfl, igX12, fl_12_167⟩
set_option maxRecDepth 20000 in
theorem fl_12_170 : Cond.fieldLink RX12 170 (TX12 79).1 (TX12 79).2.1 (TX12 79).2.2.1 ∈ lw_g := lw_c7 25 rfl rfl
theorem fg_12_170 : xFL RX12 170 12 79 := ⟨RX12, TX12, 103, rfl, Nat.le_of_ble_eq_true rfl, igX12, fl_12_170⟩
set_option maxRecDepth 20000 in
theorem fl_12_173 : Cond.fieldLink RX12 173 (TX12 80).1 (TX12 80).2.1 (TX12 80).2.2.1 ∈ lw_g := lw_c7 26 rfl rfl
theorem fg_12_173 : xFL RX12 173 12 80 := ⟨RX12, TX12, 103, rfl, Nat.le_of_ble_eq_true rfl, igX12, fl_12_173⟩
set_option maxRecDepth 20000 in
theorem fl_12_176 : Cond.fieldLink RX12 176 (TX12 81).1 (TX12 81).2.1 (TX12 81).2.2.1 ∈ lw_g := lw_c7 27 rfl rfl
theorem fg_12_176 : xFL RX12 176 12 81 := ⟨RX12, TX12, 103, rfl, Nat.le_of_ble_eq_true rfl, igX12, fl_12_176⟩
set_option maxRecDepth 20000 in
theorem fl_12_179 : Cond.fieldLink RX12 179 (TX12 83).1 (TX12 83).2.1 (TX12 83).2.2.1 ∈ lw_g := lw_c7 29 rfl rfl
theorem fg_12_179 : xFL RX12 179 12 83 := ⟨RX12, TX12, 103, rfl, Nat.le_of_ble_eq_true rfl, igX12, fl_12_179⟩
set_option maxRecDepth 20000 in
theorem fl_12_182 : Cond.fieldLink RX12 182 (TX12 84).1 (TX12 84).2.1 (TX12 84).2.2.1 ∈ lw_g := lw_c7 30 rfl rfl
theorem fg_12_182 : xFL RX12 182 12 84 := ⟨RX12, TX12, 103, rfl, Nat.le_of_ble_eq_true rfl, igX12, fl_12_182⟩
set_option maxRecDepth 20000 in
theorem fl_12_185 : Cond.fieldLink RX12 185 (TX12 87).1 (TX12 87).2.1 (TX12 87).2.2.1 ∈ lw_g := lw_c7 33 rfl rfl
theorem fg_12_185 : xFL RX12 185 12 87 := ⟨RX12, TX12, 103, rfl, Nat.le_of_ble_eq_true rfl, igX12, fl_12_185⟩
set_option maxRecDepth 20000 in
theorem fl_12_188 : Cond.fieldLink RX12 188 (TX12 88).1 (TX12 88).2.1 (TX12 88).2.2.1 ∈ lw_g := lw_c7 34 rfl rfl
theorem fg_12_188 : xFL RX12 188 12 88 := ⟨RX12, TX12, 103, rfl, Nat.le_of_ble_eq_true rfl, igX12, fl_12_188⟩
set_option maxRecDepth 20000 in
theorem fl_12_191 : Cond.fieldLink RX12 191 (TX12 89).1 (TX12 89).2.1 (TX12 89).2.2.1 ∈ lw_g := lw_c7 35 rfl rfl
theorem fg_12_191 : xFL RX12 191 12 89 := ⟨RX12, TX12, 103, rfl, Nat.le_of_ble_eq_true rfl, igX12, fl_12_191⟩
set_option maxRecDepth 20000 in
theorem fl_12_194 : Cond.fieldLink RX12 194 (TX12 90).1 (TX12 90).2.1 (TX12 90).2.2.1 ∈ lw_g := lw_c7 36 rfl rfl
theorem fg_12_194 : xFL RX12 194 12 90 := ⟨RX12, TX12, 103, rfl, Nat.le_of_ble_eq_true rfl, igX12, fl_12_194⟩
set_option maxRecDepth 20000 in
theorem fl_12_197 : Cond.fieldLink RX12 197 (TX12 92).1 (TX12 92).2.1 (TX12 92).2.2.1 ∈ lw_g := lw_c7 38 rfl rfl
theorem fg_12_197 : xFL RX12 197 12 92 := ⟨RX12, TX12, 103, rfl, Nat.le_of_ble_eq_true rfl, igX12, fl_12_197⟩
set_option maxRecDepth 20000 in
theorem fl_12_200 : Cond.fieldLink RX12 200 (TX12 93).1 (TX12 93).2.1 (TX12 93).2.2.1 ∈ lw_g := lw_c7 39 rfl rfl
theorem fg_12_200 : xFL RX12 200 12 93 := ⟨RX12, TX12, 103, rfl, Nat.le_of_ble_eq_true rfl, igX12, fl_12_200⟩
set_option maxRecDepth 20000 in
theorem fl_12_203 : Cond.fieldLink RX12 203 (TX12 94).1 (TX12 94).2.1 (TX12 94).2.2.1 ∈ lw_g := lw_c7 40 rfl rfl
theorem fg_12_203 : xFL RX12 203 12 94 := ⟨RX12, TX12, 103, rfl, Nat.le_of_ble_eq_true rfl, igX12, fl_12_203⟩
set_option maxRecDepth 20000 in
theorem fl_12_206 : Cond.fieldLink RX12 206 (TX12 95).1 (TX12 95).2.1 (TX12 95).2.2.1 ∈ lw_g := lw_c7 41 rfl rfl
theorem fg_12_206 : xFL RX12 206 12 95 := ⟨RX12, TX12, 103, rfl, Nat.le_of_ble_eq_true rfl, igX12, fl_12_206⟩
set_option maxRecDepth 20000 in
theorem fl_12_209 : Cond.fieldLink RX12 209 (TX12 98).1 (TX12 98).2.1 (TX12 98).2.2.1 ∈ lw_g := lw_c7 44 rfl rfl
theorem fg_12_209 : xFL RX12 209 12 98 := ⟨RX12, TX12, 103, rfl, Nat.le_of_ble_eq_true rfl, igX12, fl_12_209⟩
set_option maxRecDepth 20000 in
theorem fl_12_212 : Cond.fieldLink RX12 212 (TX12 99).1 (TX12 99).2.1 (TX12 99).2.2.1 ∈ lw_g := lw_c7 45 rfl rfl
theorem fg_12_212 : xFL RX12 212 12 99 := ⟨RX12, TX12, 103, rfl, Nat.le_of_ble_eq_true rfl, igX12, fl_12_212⟩
set_option maxRecDepth 20000 in
theorem fl_12_215 : Cond.fieldLink RX12 215 (TX12 100).1 (TX12 100).2.1 (TX12 100).2.2.1 ∈ lw_g := lw_c7 46 rfl rfl
theorem fg_12_215 : xFL RX12 215 12 100 := ⟨RX12, TX12, 103, rfl, Nat.le_of_ble_eq_true rfl, igX12, fl_12_215⟩
set_option maxRecDepth 20000 in
theorem fl_12_218 : Cond.fieldLink RX12 218 (TX12 101).1 (TX12 101).2.1 (TX12 101).2.2.1 ∈ lw_g := lw_c7 47 rfl rfl
theorem fg_12_218 : xFL RX12 218 12 101 := ⟨RX12, TX12, 103, rfl, Nat.le_of_ble_eq_true rfl, igX12, fl_12_218⟩
set_option maxRecDepth 20000 in
theorem fl_12_221 : Cond.fieldLink RX12 221 (TX12 102).1 (TX12 102).2.1 (TX12 102).2.2.1 ∈ lw_g := lw_c7 48 rfl rfl
theorem fg_12_221 : xFL RX12 221 12 102 := ⟨RX12, TX12, 103, rfl, Nat.le_of_ble_eq_true rfl, igX12, fl_12_221⟩
set_option maxRecDepth 20000 in
theorem fl_12_230 : Cond.fieldLink RX12 230 (TX12 1).1 (TX12 1).2.1 (TX12 1).2.2.1 ∈ lw_g := lw_c6 188 rfl rfl
theorem fg_12_230 : xFL RX12 230 12 1 := ⟨RX12, TX12, 103, rfl, Nat.le_of_ble_eq_true rfl, igX12, fl_12_230⟩
theorem fp_12_230 : xFP RX12 230 12 1 .int := ⟨RX12, TX12, 103, tyX12, rfl, Nat.le_of_ble_eq_true rfl, igX12, fl_12_230, tyX12_ok, nmX12, rfl, tyX12_ok 1 (Nat.le_of_ble_eq_true rfl)⟩
set_option maxRecDepth 20000 in
theorem fl_12_233 : Cond.fieldLink RX12 233 (TX12 2).1 (TX12 2).2.1 (TX12 2).2.2.1 ∈ lw_g := lw_c6 189 rfl rfl
theorem fg_12_233 : xFL RX12 233 12 2 := ⟨RX12, TX12, 103, rfl, Nat.le_of_ble_eq_true rfl, igX12, fl_12_233⟩
theorem fp_12_233 : xFP RX12 233 12 2 .int := ⟨RX12, TX12, 103, tyX12, rfl, Nat.le_of_ble_eq_true rfl, igX12, fl_12_233, tyX12_ok, nmX12, rfl, tyX12_ok 2 (Nat.le_of_ble_eq_true rfl)⟩
set_option maxRecDepth 20000 in
theorem fl_12_236 : Cond.fieldLink RX12 236 (TX12 6).1 (TX12 6).2.1 (TX12 6).2.2.1 ∈ lw_g := lw_c6 193 rfl rfl
theorem fg_12_236 : xFL RX12 236 12 6 := ⟨RX12, TX12, 103, rfl, Nat.le_of_ble_eq_true rfl, igX12, fl_12_236⟩
theorem fp_12_236 : xFP RX12 236 12 6 .int := ⟨RX12, TX12, 103, tyX12, rfl, Nat.le_of_ble_eq_true rfl, igX12, fl_12_236, tyX12_ok, nmX12, rfl, tyX12_ok 6 (Nat.le_of_ble_eq_true rfl)⟩
set_option maxRecDepth 20000 in
theorem fl_12_258 : Cond.fieldLink RX12 258 (TX12 5).1 (TX12 5).2.1 (TX12 5).2.2.1 ∈ lw_g := lw_c6 192 rfl rfl
theorem fg_12_258 : xFL RX12 258 12 5 := ⟨RX12, TX12, 103, rfl, Nat.le_of_ble_eq_true rfl, igX12, fl_12_258⟩
theorem fp_12_258 : xFP RX12 258 12 5 .int := ⟨RX12, TX12, 103, tyX12, rfl, Nat.le_of_ble_eq_true rfl, igX12, fl_12_258, tyX12_ok, nmX12, rfl, tyX12_ok 5 (Nat.le_of_ble_eq_true rfl)⟩
set_option maxRecDepth 20000 in
theorem fl_12_261 : Cond.fieldLink RX12 261 (TX12 4).1 (TX12 4).2.1 (TX12 4).2.2.1 ∈ lw_g := lw_c6 191 rfl rfl
theorem fg_12_261 : xFL RX12 261 12 4 := ⟨RX12, TX12, 103, rfl, Nat.le_of_ble_eq_true rfl, igX12, fl_12_261⟩
theorem fp_12_261 : xFP RX12 261 12 4 .int := ⟨RX12, TX12, 103, tyX12, rfl, Nat.le_of_ble_eq_true rfl, igX12, fl_12_261, tyX12_ok, nmX12, rfl, tyX12_ok 4 (Nat.le_of_ble_eq_true rfl)⟩
set_option maxRecDepth 20000 in
theorem fl_12_264 : Cond.fieldLink RX12 264 (TX12 3).1 (TX12 3).2.1 (TX12 3).2.2.1 ∈ lw_g := lw_c6 190 rfl rfl
theorem fg_12_264 : xFL RX12 264 12 3 := ⟨RX12, TX12, 103, rfl, Nat.le_of_ble_eq_true rfl, igX12, fl_12_264⟩
theorem fp_12_264 : xFP RX12 264 12 3 .int := ⟨RX12, TX12, 103, tyX12, rfl, Nat.le_of_ble_eq_true rfl, igX12, fl_12_264, tyX12_ok, nmX12, rfl, tyX12_ok 3 (Nat.le_of_ble_eq_true rfl)⟩
set_option maxRecDepth 20000 in
theorem fl_12_271 : Cond.fieldLink RX12 271 (TX12 10).1 (TX12 10).2.1 (TX12 10).2.2.1 ∈ lw_g := lw_c6 197 rfl rfl
theorem fg_12_271 : xFL RX12 271 12 10 := ⟨RX12, TX12, 103, rfl, Nat.le_of_ble_eq_true rfl, igX12, fl_12_271⟩
theorem fp_12_271 : xFP RX12 271 12 10 .long := ⟨RX12, TX12, 103, tyX12, rfl, Nat.le_of_ble_eq_true rfl, igX12, fl_12_271, tyX12_ok, nmX12, rfl, tyX12_ok 10 (Nat.le_of_ble_eq_true rfl)⟩
set_option maxRecDepth 20000 in
theorem fl_12_286 : Cond.fieldLink RX12 286 (TX12 7).1 (TX12 7).2.1 (TX12 7).2.2.1 ∈ lw_g := lw_c6 194 rfl rfl
theorem fg_12_286 : xFL RX12 286 12 7 := ⟨RX12, TX12, 103, rfl, Nat.le_of_ble_eq_true rfl, igX12, fl_12_286⟩
theorem fp_12_286 : xFP RX12 286 12 7 .int := ⟨RX12, TX12, 103, tyX12, rfl, Nat.le_of_ble_eq_true rfl, igX12, fl_12_286, tyX12_ok, nmX12, rfl, tyX12_ok 7 (Nat.le_of_ble_eq_true rfl)⟩
set_option maxRecDepth 20000 in
theorem fl_12_289 : Cond.fieldLink RX12 289 (TX12 8).1 (TX12 8).2.1 (TX12 8).2.2.1 ∈ lw_g := lw_c6 195 rfl rfl
theorem fg_12_289 : xFL RX12 289 12 8 := ⟨RX12, TX12, 103, rfl, Nat.le_of_ble_eq_true rfl, igX12, fl_12_289⟩
theorem fp_12_289 : xFP RX12 289 12 8 .int := ⟨RX12, TX12, 103, tyX12, rfl, Nat.le_of_ble_eq_true rfl, igX12, fl_12_289, tyX12_ok, nmX12, rfl, tyX12_ok 8 (Nat.le_of_ble_eq_true rfl)⟩
set_option maxRecDepth 20000 in
theorem fl_12_299 : Cond.fieldLink RX12 299 (TX12 11).1 (TX12 11).2.1 (TX12 11).2.2.1 ∈ lw_g := lw_c6 198 rfl rfl
theorem fg_12_299 : xFL RX12 299 12 11 := ⟨RX12, TX12, 103, rfl, Nat.le_of_ble_eq_true rfl, igX12, fl_12_299⟩
theorem fp_12_299 : xFP RX12 299 12 11 .int := ⟨RX12, TX12, 103, tyX12, rfl, Nat.le_of_ble_eq_true rfl, igX12, fl_12_299, tyX12_ok, nmX12, rfl, tyX12_ok 11 (Nat.le_of_ble_eq_true rfl)⟩
set_option maxRecDepth 20000 in
theorem fl_12_317 : Cond.fieldLink RX12 317 (TX12 21).1 (TX12 21).2.1 (TX12 21).2.2.1 ∈ lw_g := lw_c6 208 rfl rfl
theorem fg_12_317 : xFL RX12 317 12 21 := ⟨RX12, TX12, 103, rfl, Nat.le_of_ble_eq_true rfl, igX12, fl_12_317⟩
theorem fp_12_317 : xFP RX12 317 12 21 .int := ⟨RX12, TX12, 103, tyX12, rfl, Nat.le_of_ble_eq_true rfl, igX12, fl_12_317, tyX12_ok, nmX12, rfl, tyX12_ok 21 (Nat.le_of_ble_eq_true rfl)⟩
set_option maxRecDepth 20000 in
theorem fl_12_326 : Cond.fieldLink RX12 326 (TX12 35).1 (TX12 35).2.1 (TX12 35).2.2.1 ∈ lw_g := lw_c6 222 rfl rfl
theorem fg_12_326 : xFL RX12 326 12 35 := ⟨RX12, TX12, 103, rfl, Nat.le_of_ble_eq_true rfl, igX12, fl_12_326⟩
theorem fp_12_326 : xFP RX12 326 12 35 .int := ⟨RX12, TX12, 103, tyX12, rfl, Nat.le_of_ble_eq_true rfl, igX12, fl_12_326, tyX12_ok, nmX12, rfl, tyX12_ok 35 (Nat.le_of_ble_eq_true rfl)⟩
set_option maxRecDepth 20000 in
theorem fl_12_329 : Cond.fieldLink RX12 329 (TX12 36).1 (TX12 36).2.1 (TX12 36).2.2.1 ∈ lw_g := lw_c6 223 rfl rfl
theorem fg_12_329 : xFL RX12 329 12 36 := ⟨RX12, TX12, 103, rfl, Nat.le_of_ble_eq_true rfl, igX12, fl_12_329⟩
theorem fp_12_329 : xFP RX12 329 12 36 .int := ⟨RX12, TX12, 103, tyX12, rfl, Nat.le_of_ble_eq_true rfl, igX12, fl_12_329, tyX12_ok, nmX12, rfl, tyX12_ok 36 (Nat.le_of_ble_eq_true rfl)⟩
set_option maxRecDepth 20000 in
theorem fl_12_332 : Cond.fieldLink RX12 332 (TX12 69).1 (TX12 69).2.1 (TX12 69).2.2.1 ∈ lw_g := lw_c7 15 rfl rfl
theorem fg_12_332 : xFL RX12 332 12 69 := ⟨RX12, TX12, 103, rfl, Nat.le_of_ble_eq_true rfl, igX12, fl_12_332⟩
theorem fp_12_332 : xFP RX12 332 12 69 .int := ⟨RX12, TX12, 103, tyX12, rfl, Nat.le_of_ble_eq_true rfl, igX12, fl_12_332, tyX12_ok, nmX12, rfl, tyX12_ok 69 (Nat.le_of_ble_eq_true rfl)⟩
set_option maxRecDepth 20000 in
theorem fl_12_335 : Cond.fieldLink RX12 335 (TX12 96).1 (TX12 96).2.1 (TX12 96).2.2.1 ∈ lw_g := lw_c7 42 rfl rfl
theorem fg_12_335 : xFL RX12 335 12 96 := ⟨RX12, TX12, 103, rfl, Nat.le_of_ble_eq_true rfl, igX12, fl_12_335⟩
theorem fp_12_335 : xFP RX12 335 12 96 .int := ⟨RX12, TX12, 103, tyX12, rfl, Nat.le_of_ble_eq_true rfl, igX12, fl_12_335, tyX12_ok, nmX12, rfl, tyX12_ok 96 (Nat.le_of_ble_eq_true rfl)⟩
set_option maxRecDepth 20000 in
theorem fl_12_338 : Cond.fieldLink RX12 338 (TX12 97).1 (TX12 97).2.1 (TX12 97).2.2.1 ∈ lw_g := lw_c7 43 rfl rfl
theorem fg_12_338 : xFL RX12 338 12 97 := ⟨RX12, TX12, 103, rfl, Nat.le_of_ble_eq_true rfl, igX12, fl_12_338⟩
theorem fp_12_338 : xFP RX12 338 12 97 .int := ⟨RX12, TX12, 103, tyX12, rfl, Nat.le_of_ble_eq_true rfl, igX12, fl_12_338, tyX12_ok, nmX12, rfl, tyX12_ok 97 (Nat.le_of_ble_eq_true rfl)⟩
set_option maxRecDepth 20000 in
theorem fl_12_341 : Cond.fieldLink RX12 341 (TX12 74).1 (TX12 74).2.1 (TX12 74).2.2.1 ∈ lw_g := lw_c7 20 rfl rfl
theorem fg_12_341 : xFL RX12 341 12 74 := ⟨RX12, TX12, 103, rfl, Nat.le_of_ble_eq_true rfl, igX12, fl_12_341⟩
theorem fp_12_341 : xFP RX12 341 12 74 .int := ⟨RX12, TX12, 103, tyX12, rfl, Nat.le_of_ble_eq_true rfl, igX12, fl_12_341, tyX12_ok, nmX12, rfl, tyX12_ok 74 (Nat.le_of_ble_eq_true rfl)⟩
set_option maxRecDepth 20000 in
theorem fl_12_344 : Cond.fieldLink RX12 344 (TX12 82).1 (TX12 82).2.1 (TX12 82).2.2.1 ∈ lw_g := lw_c7 28 rfl rfl
theorem fg_12_344 : xFL RX12 344 12 82 := ⟨RX12, TX12, 103, rfl, Nat.le_of_ble_eq_true rfl, igX12, fl_12_344⟩
theorem fp_12_344 : xFP RX12 344 12 82 .int := ⟨RX12, TX12, 103, tyX12, rfl, Nat.le_of_ble_eq_true rfl, igX12, fl_12_344, tyX12_ok, nmX12, rfl, tyX12_ok 82 (Nat.le_of_ble_eq_true rfl)⟩
set_option maxRecDepth 20000 in
theorem fl_12_347 : Cond.fieldLink RX12 347 (TX12 86).1 (TX12 86).2.1 (TX12 86).2.2.1 ∈ lw_g := lw_c7 32 rfl rfl
theorem fg_12_347 : xFL RX12 347 12 86 := ⟨RX12, TX12, 103, rfl, Nat.le_of_ble_eq_true rfl, igX12, fl_12_347⟩
theorem fp_12_347 : xFP RX12 347 12 86 .int := ⟨RX12, TX12, 103, tyX12, rfl, Nat.le_of_ble_eq_true rfl, igX12, fl_12_347, tyX12_ok, nmX12, rfl, tyX12_ok 86 (Nat.le_of_ble_eq_true rfl)⟩
set_option maxRecDepth 20000 in
theorem fl_12_350 : Cond.fieldLink RX12 350 (TX12 31).1 (TX12 31).2.1 (TX12 31).2.2.1 ∈ lw_g := lw_c6 218 rfl rfl
theorem fg_12_350 : xFL RX12 350 12 31 := ⟨RX12, TX12, 103, rfl, Nat.le_of_ble_eq_true rfl, igX12, fl_12_350⟩
theorem fp_12_350 : xFP RX12 350 12 31 .int := ⟨RX12, TX12, 103, tyX12, rfl, Nat.le_of_ble_eq_true rfl, igX12, fl_12_350, tyX12_ok, nmX12, rfl, tyX12_ok 31 (Nat.le_of_ble_eq_true rfl)⟩
set_option maxRecDepth 20000 in
theorem fl_12_353 : Cond.fieldLink RX12 353 (TX12 33).1 (TX12 33).2.1 (TX12 33).2.2.1 ∈ lw_g := lw_c6 220 rfl rfl
theorem fg_12_353 : xFL RX12 353 12 33 := ⟨RX12, TX12, 103, rfl, Nat.le_of_ble_eq_true rfl, igX12, fl_12_353⟩
theorem fp_12_353 : xFP RX12 353 12 33 .int := ⟨RX12, TX12, 103, tyX12, rfl, Nat.le_of_ble_eq_true rfl, igX12, fl_12_353, tyX12_ok, nmX12, rfl, tyX12_ok 33 (Nat.le_of_ble_eq_true rfl)⟩
set_option maxRecDepth 20000 in
theorem fl_12_356 : Cond.fieldLink RX12 356 (TX12 32).1 (TX12 32).2.1 (TX12 32).2.2.1 ∈ lw_g := lw_c6 219 rfl rfl
theorem fg_12_356 : xFL RX12 356 12 32 := ⟨RX12, TX12, 103, rfl, Nat.le_of_ble_eq_true rfl, igX12, fl_12_356⟩
theorem fp_12_356 : xFP RX12 356 12 32 .int := ⟨RX12, TX12, 103, tyX12, rfl, Nat.le_of_ble_eq_true rfl, igX12, fl_12_356, tyX12_ok, nmX12, rfl, tyX12_ok 32 (Nat.le_of_ble_eq_true rfl)⟩
set_option maxRecDepth 20000 in
theorem fl_12_368 : Cond.fieldLink RX12 368 (TX12 34).1 (TX12 34).2.1 (TX12 34).2.2.1 ∈ lw_g := lw_c6 221 rfl rfl
theorem fg_12_368 : xFL RX12 368 12 34 := ⟨RX12, TX12, 103, rfl, Nat.le_of_ble_eq_true rfl, igX12, fl_12_368⟩
theorem fp_12_368 : xFP RX12 368 12 34 .int := ⟨RX12, TX12, 103, tyX12, rfl, Nat.le_of_ble_eq_true rfl, igX12, fl_12_368, tyX12_ok, nmX12, rfl, tyX12_ok 34 (Nat.le_of_ble_eq_true rfl)⟩
set_option maxRecDepth 20000 in
theorem fl_12_404 : Cond.fieldLink RX12 404 (TX12 48).1 (TX12 48).2.1 (TX12 48).2.2.1 ∈ lw_g := lw_c6 234 rfl rfl
theorem fg_12_404 : xFL RX12 404 12 48 := ⟨RX12, TX12, 103, rfl, Nat.le_of_ble_eq_true rfl, igX12, fl_12_404⟩
theorem fp_12_404 : xFP RX12 404 12 48 .boolean := ⟨RX12, TX12, 103, tyX12, rfl, Nat.le_of_ble_eq_true rfl, igX12, fl_12_404, tyX12_ok, nmX12, rfl, tyX12_ok 48 (Nat.le_of_ble_eq_true rfl)⟩
set_option maxRecDepth 20000 in
theorem fl_12_408 : Cond.fieldLink RX12 408 (TX12 49).1 (TX12 49).2.1 (TX12 49).2.2.1 ∈ lw_g := lw_c6 235 rfl rfl
theorem fg_12_408 : xFL RX12 408 12 49 := ⟨RX12, TX12, 103, rfl, Nat.le_of_ble_eq_true rfl, igX12, fl_12_408⟩
theorem fp_12_408 : xFP RX12 408 12 49 .int := ⟨RX12, TX12, 103, tyX12, rfl, Nat.le_of_ble_eq_true rfl, igX12, fl_12_408, tyX12_ok, nmX12, rfl, tyX12_ok 49 (Nat.le_of_ble_eq_true rfl)⟩
set_option maxRecDepth 20000 in
theorem fl_12_436 : Cond.fieldLink RX12 436 (TX12 61).1 (TX12 61).2.1 (TX12 61).2.2.1 ∈ lw_g := lw_c7 7 rfl rfl
theorem fg_12_436 : xFL RX12 436 12 61 := ⟨RX12, TX12, 103, rfl, Nat.le_of_ble_eq_true rfl, igX12, fl_12_436⟩
theorem fp_12_436 : xFP RX12 436 12 61 .int := ⟨RX12, TX12, 103, tyX12, rfl, Nat.le_of_ble_eq_true rfl, igX12, fl_12_436, tyX12_ok, nmX12, rfl, tyX12_ok 61 (Nat.le_of_ble_eq_true rfl)⟩
set_option maxRecDepth 20000 in
theorem fl_12_439 : Cond.fieldLink RX12 439 (TX12 63).1 (TX12 63).2.1 (TX12 63).2.2.1 ∈ lw_g := lw_c7 9 rfl rfl
theorem fg_12_439 : xFL RX12 439 12 63 := ⟨RX12, TX12, 103, rfl, Nat.le_of_ble_eq_true rfl, igX12, fl_12_439⟩
theorem fp_12_439 : xFP RX12 439 12 63 .boolean := ⟨RX12, TX12, 103, tyX12, rfl, Nat.le_of_ble_eq_true rfl, igX12, fl_12_439, tyX12_ok, nmX12, rfl, tyX12_ok 63 (Nat.le_of_ble_eq_true rfl)⟩
set_option maxRecDepth 20000 in
theorem fl_12_442 : Cond.fieldLink RX12 442 (TX12 62).1 (TX12 62).2.1 (TX12 62).2.2.1 ∈ lw_g := lw_c7 8 rfl rfl
theorem fg_12_442 : xFL RX12 442 12 62 := ⟨RX12, TX12, 103, rfl, Nat.le_of_ble_eq_true rfl, igX12, fl_12_442⟩
theorem fp_12_442 : xFP RX12 442 12 62 .int := ⟨RX12, TX12, 103, tyX12, rfl, Nat.le_of_ble_eq_true rfl, igX12, fl_12_442, tyX12_ok, nmX12, rfl, tyX12_ok 62 (Nat.le_of_ble_eq_true rfl)⟩
set_option maxRecDepth 20000 in
theorem fl_12_445 : Cond.fieldLink RX12 445 (TX12 60).1 (TX12 60).2.1 (TX12 60).2.2.1 ∈ lw_g := lw_c7 6 rfl rfl
theorem fg_12_445 : xFL RX12 445 12 60 := ⟨RX12, TX12, 103, rfl, Nat.le_of_ble_eq_true rfl, igX12, fl_12_445⟩
theorem fp_12_445 : xFP RX12 445 12 60 .int := ⟨RX12, TX12, 103, tyX12, rfl, Nat.le_of_ble_eq_true rfl, igX12, fl_12_445, tyX12_ok, nmX12, rfl, tyX12_ok 60 (Nat.le_of_ble_eq_true rfl)⟩
set_option maxRecDepth 20000 in
theorem fl_12_476 : Cond.fieldLink RX12 476 (TX12 68).1 (TX12 68).2.1 (TX12 68).2.2.1 ∈ lw_g := lw_c7 14 rfl rfl
theorem fg_12_476 : xFL RX12 476 12 68 := ⟨RX12, TX12, 103, rfl, Nat.le_of_ble_eq_true rfl, igX12, fl_12_476⟩
theorem fp_12_476 : xFP RX12 476 12 68 .int := ⟨RX12, TX12, 103, tyX12, rfl, Nat.le_of_ble_eq_true rfl, igX12, fl_12_476, tyX12_ok, nmX12, rfl, tyX12_ok 68 (Nat.le_of_ble_eq_true rfl)⟩
set_option maxRecDepth 20000 in
theorem fl_12_515 : Cond.fieldLink RX12 515 (TX12 85).1 (TX12 85).2.1 (TX12 85).2.2.1 ∈ lw_g := lw_c7 31 rfl rfl
theorem fg_12_515 : xFL RX12 515 12 85 := ⟨RX12, TX12, 103, rfl, Nat.le_of_ble_eq_true rfl, igX12, fl_12_515⟩
theorem fp_12_515 : xFP RX12 515 12 85 .int := ⟨RX12, TX12, 103, tyX12, rfl, Nat.le_of_ble_eq_true rfl, igX12, fl_12_515, tyX12_ok, nmX12, rfl, tyX12_ok 85 (Nat.le_of_ble_eq_true rfl)⟩
set_option maxRecDepth 20000 in
theorem fl_12_518 : Cond.fieldLink RX12 518 (TX12 91).1 (TX12 91).2.1 (TX12 91).2.2.1 ∈ lw_g := lw_c7 37 rfl rfl
theorem fg_12_518 : xFL RX12 518 12 91 := ⟨RX12, TX12, 103, rfl, Nat.le_of_ble_eq_true rfl, igX12, fl_12_518⟩
theorem fp_12_518 : xFP RX12 518 12 91 .int := ⟨RX12, TX12, 103, tyX12, rfl, Nat.le_of_ble_eq_true rfl, igX12, fl_12_518, tyX12_ok, nmX12, rfl, tyX12_ok 91 (Nat.le_of_ble_eq_true rfl)⟩
set_option maxRecDepth 20000 in
theorem fs_X6_37 : Cond.fieldLink RX6 37 "ScribeBlocks$SignList" "UNTOLD" "[I" ∈ lw_g := lw_c1 103 rfl rfl
set_option maxRecDepth 20000 in
theorem fs_J0_38 : Cond.fieldLink RJ0 38 "java/lang/String" "COMPACT_STRINGS" "Z" ∈ lw_g := lw_c3 146 rfl rfl
set_option maxRecDepth 20000 in
theorem fs_J0_1053 : Cond.fieldLink RJ0 1053 "jdk/internal/util/Preconditions" "SIOOBE_FORMATTER" "Ljava/util/function/BiFunction;" ∈ lw_g := lw_c3 162 rfl rfl
set_option maxRecDepth 20000 in
theorem fs_J2_44 : Cond.fieldLink RJ2 44 "java/lang/StringUTF16" "$assertionsDisabled" "Z" ∈ lw_g := lw_c3 180 rfl rfl
set_option maxRecDepth 20000 in
theorem fs_J2_59 : Cond.fieldLink RJ2 59 "java/lang/StringUTF16" "HI_BYTE_SHIFT" "I" ∈ lw_g := lw_c3 182 rfl rfl
set_option maxRecDepth 20000 in
theorem fs_J2_63 : Cond.fieldLink RJ2 63 "java/lang/StringUTF16" "LO_BYTE_SHIFT" "I" ∈ lw_g := lw_c3 184 rfl rfl
set_option maxRecDepth 20000 in
theorem fs_X6_86 : Cond.fieldLink RX6 86 "ScribeBlocks$SignList" "LOWEST" "[I" ∈ lw_g := lw_c3 239 rfl rfl
set_option maxRecDepth 20000 in
theorem fs_X6_89 : Cond.fieldLink RX6 89 "ScribeBlocks$SignList" "HIGHEST" "[I" ∈ lw_g := lw_c4 1 rfl rfl
set_option maxRecDepth 20000 in
theorem fs_X3_45 : Cond.fieldLink RX3 45 "ScribeBlocks$Grouper" "SIGNS_OF" "[I" ∈ lw_g := lw_c6 10 rfl rfl
set_option maxRecDepth 20000 in
theorem fs_X3_62 : Cond.fieldLink RX3 62 "ScribeBlocks$Grouper" "IS_OVER" "[I" ∈ lw_g := lw_c6 16 rfl rfl
set_option maxRecDepth 20000 in
theorem fs_X3_74 : Cond.fieldLink RX3 74 "ScribeBlocks$Grouper" "PARTS" "[I" ∈ lw_g := lw_c6 18 rfl rfl
set_option maxRecDepth 20000 in
theorem fs_X2_180 : Cond.fieldLink RX2 180 "ScribeBlocks$Grouper" "SIGNS_OF" "[I" ∈ lw_g := lw_c6 70 rfl rfl
set_option maxRecDepth 20000 in
theorem fs_J0_9 : Cond.fieldLink RJ0 9 "java/lang/String" "value" "[B" ∈ lw_g := lw_c9 127 rfl rfl
set_option maxRecDepth 20000 in
theorem fs_J0_15 : Cond.fieldLink RJ0 15 "java/lang/String" "coder" "B" ∈ lw_g := lw_c9 128 rfl rfl
set_option maxRecDepth 20000 in
theorem ml_X11_1 : Cond.methodLink RX11 1 ⟨"java/lang/Object", "<init>", "()V"⟩ ∈ lw_g := lw_c1 26 rfl rfl
set_option maxRecDepth 20000 in
theorem ml_X8_3 : Cond.methodLink RX8 3 ⟨"java/lang/Object", "<init>", "()V"⟩ ∈ lw_g := lw_c1 34 rfl rfl
set_option maxRecDepth 20000 in
theorem ml_X11_18 : Cond.methodLink RX11 18 yX6_init ∈ lw_g := lw_c1 99 rfl rfl
set_option maxRecDepth 20000 in
theorem ml_X6_3 : Cond.methodLink RX6 3 ⟨"java/lang/Object", "<init>", "()V"⟩ ∈ lw_g := lw_c1 102 rfl rfl
set_option maxRecDepth 20000 in
theorem ml_X6_40 : Cond.methodLink RX6 40 ⟨"java/lang/System", "arraycopy", "(Ljava/lang/Object;ILjava/lang/Object;II)V"⟩ ∈ lw_g := lw_c1 105 rfl rfl
set_option maxRecDepth 20000 in
theorem ml_X11_28 : Cond.methodLink RX11 28 yX0_init ∈ lw_g := lw_c1 165 rfl rfl
set_option maxRecDepth 20000 in
theorem ml_X0_3 : Cond.methodLink RX0 3 ⟨"java/lang/Object", "<init>", "()V"⟩ ∈ lw_g := lw_c1 168 rfl rfl
set_option maxRecDepth 20000 in
theorem ml_X11_37 : Cond.methodLink RX11 37 yX1_init ∈ lw_g := lw_c1 194 rfl rfl
set_option maxRecDepth 20000 in
theorem ml_X1_3 : Cond.methodLink RX1 3 ⟨"java/lang/Object", "<init>", "()V"⟩ ∈ lw_g := lw_c1 197 rfl rfl
set_option maxRecDepth 20000 in
theorem ml_X9_3 : Cond.methodLink RX9 3 ⟨"java/lang/Object", "<init>", "()V"⟩ ∈ lw_g := lw_c2 15 rfl rfl
set_option maxRecDepth 20000 in
theorem ml_X11_53 : Cond.methodLink RX11 53 yX7_init ∈ lw_g := lw_c2 43 rfl rfl
set_option maxRecDepth 20000 in
theorem ml_X7_1 : Cond.methodLink RX7 1 ⟨"java/lang/Object", "<init>", "()V"⟩ ∈ lw_g := lw_c2 46 rfl rfl
set_option maxRecDepth 20000 in
theorem ml_X11_62 : Cond.methodLink RX11 62 yX3_init ∈ lw_g := lw_c2 75 rfl rfl
set_option maxRecDepth 20000 in
theorem ml_X3_3 : Cond.methodLink RX3 3 ⟨"java/lang/Object", "<init>", "()V"⟩ ∈ lw_g := lw_c2 78 rfl rfl
set_option maxRecDepth 20000 in
theorem ml_X11_69 : Cond.methodLink RX11 69 yX2_init ∈ lw_g := lw_c2 106 rfl rfl
set_option maxRecDepth 20000 in
theorem ml_X2_7 : Cond.methodLink RX2 7 ⟨"java/lang/Object", "<init>", "()V"⟩ ∈ lw_g := lw_c2 109 rfl rfl
set_option maxRecDepth 20000 in
theorem ml_X11_78 : Cond.methodLink RX11 78 yX5_init ∈ lw_g := lw_c2 155 rfl rfl
set_option maxRecDepth 20000 in
theorem ml_X5_3 : Cond.methodLink RX5 3 ⟨"java/lang/Object", "<init>", "()V"⟩ ∈ lw_g := lw_c2 158 rfl rfl
set_option maxRecDepth 20000 in
theorem ml_X11_87 : Cond.methodLink RX11 87 yX4_init ∈ lw_g := lw_c2 209 rfl rfl
set_option maxRecDepth 20000 in
theorem ml_X4_7 : Cond.methodLink RX4 7 ⟨"java/lang/Object", "<init>", "()V"⟩ ∈ lw_g := lw_c2 212 rfl rfl
set_option maxRecDepth 20000 in
theorem ml_X10_3 : Cond.methodLink RX10 3 ⟨"java/lang/Object", "<init>", "()V"⟩ ∈ lw_g := lw_c3 12 rfl rfl
set_option maxRecDepth 20000 in
theorem ml_X11_105 : Cond.methodLink RX11 105 yX8_put ∈ lw_g := lw_c3 83 rfl rfl
set_option maxRecDepth 20000 in
theorem ml_X11_109 : Cond.methodLink RX11 109 yX8_rewind ∈ lw_g := lw_c3 95 rfl rfl
set_option maxRecDepth 20000 in
theorem ml_X11_112 : Cond.methodLink RX11 112 yX8_forgetFault ∈ lw_g := lw_c3 99 rfl rfl
set_option maxRecDepth 20000 in
theorem ml_X11_115 : Cond.methodLink RX11 115 yX6_take ∈ lw_g := lw_c3 103 rfl rfl
set_option maxRecDepth 20000 in
theorem ml_X6_59 : Cond.methodLink RX6 59 yX8_next ∈ lw_g := lw_c3 107 rfl rfl
set_option maxRecDepth 20000 in
theorem ml_X8_34 : Cond.methodLink RX8 34 yX8_isLetter ∈ lw_g := lw_c3 111 rfl rfl
set_option maxRecDepth 20000 in
theorem ml_X8_38 : Cond.methodLink RX8 38 yX8_takeWord ∈ lw_g := lw_c3 114 rfl rfl
set_option maxRecDepth 20000 in
theorem ml_X8_41 : Cond.methodLink RX8 41 yX8_isDigit ∈ lw_g := lw_c3 119 rfl rfl
set_option maxRecDepth 20000 in
theorem ml_X8_44 : Cond.methodLink RX8 44 yX8_takeNumber ∈ lw_g := lw_c3 122 rfl rfl
set_option maxRecDepth 20000 in
theorem ml_X8_47 : Cond.methodLink RX8 47 yX8_takeMark ∈ lw_g := lw_c3 126 rfl rfl
set_option maxRecDepth 20000 in
theorem ml_X8_74 : Cond.methodLink RX8 74 yX8_isMark ∈ lw_g := lw_c3 130 rfl rfl
set_option maxRecDepth 20000 in
theorem ml_X6_67 : Cond.methodLink RX6 67 yX8_isWord ∈ lw_g := lw_c3 134 rfl rfl
set_option maxRecDepth 20000 in
theorem ml_X8_77 : Cond.methodLink RX8 77 yJ0_length_8abf5 ∈ lw_g := lw_c3 138 rfl rfl
set_option maxRecDepth 20000 in
theorem ml_J0_335 : Cond.methodLink RJ0 335 yJ0_coder_7d493 ∈ lw_g := lw_c3 142 rfl rfl
set_option maxRecDepth 20000 in
theorem ml_X8_83 : Cond.methodLink RX8 83 yJ0_charAt_5068e ∈ lw_g := lw_c3 148 rfl rfl
set_option maxRecDepth 20000 in
theorem ml_J0_492 : Cond.methodLink RJ0 492 yJ0_isLatin1_aae02 ∈ lw_g := lw_c3 152 rfl rfl
set_option maxRecDepth 20000 in
theorem ml_J0_495 : Cond.methodLink RJ0 495 yJ1_charAt_3b067 ∈ lw_g := lw_c3 156 rfl rfl
set_option maxRecDepth 20000 in
theorem ml_J1_9 : Cond.methodLink RJ1 9 yJ0_checkIndex_df160 ∈ lw_g := lw_c3 159 rfl rfl
set_option maxRecDepth 20000 in
theorem ml_J0_1059 : Cond.methodLink RJ0 1059 yJ3_checkIndex_8e157 ∈ lw_g := lw_c3 164 rfl rfl
set_option maxRecDepth 20000 in
theorem ml_J0_498 : Cond.methodLink RJ0 498 yJ2_charAt_3b067 ∈ lw_g := lw_c3 167 rfl rfl
set_option maxRecDepth 20000 in
theorem ml_J2_67 : Cond.methodLink RJ2 67 yJ2_checkIndex_2214a ∈ lw_g := lw_c3 170 rfl rfl
set_option maxRecDepth 20000 in
theorem ml_J2_48 : Cond.methodLink RJ2 48 yJ2_length_9d52b ∈ lw_g := lw_c3 173 rfl rfl
set_option maxRecDepth 20000 in
theorem ml_J2_414 : Cond.methodLink RJ2 414 yJ0_checkIndex_df160 ∈ lw_g := lw_c3 176 rfl rfl
set_option maxRecDepth 20000 in
theorem ml_J2_71 : Cond.methodLink RJ2 71 yJ2_getChar_3b067 ∈ lw_g := lw_c3 177 rfl rfl
set_option maxRecDepth 20000 in
theorem ml_X6_71 : Cond.methodLink RX6 71 yX6_takeSign ∈ lw_g := lw_c3 186 rfl rfl
set_option maxRecDepth 20000 in
theorem ml_X6_82 : Cond.methodLink RX6 82 yX8_refuse ∈ lw_g := lw_c3 190 rfl rfl
set_option maxRecDepth 20000 in
theorem ml_X6_114 : Cond.methodLink RX6 114 yX6_find ∈ lw_g := lw_c3 194 rfl rfl
set_option maxRecDepth 20000 in
theorem ml_X6_92 : Cond.methodLink RX6 92 yX6_takeNumber ∈ lw_g := lw_c3 198 rfl rfl
set_option maxRecDepth 20000 in
theorem ml_X6_118 : Cond.methodLink RX6 118 yX6_takeValue ∈ lw_g := lw_c3 201 rfl rfl
set_option maxRecDepth 20000 in
theorem ml_X6_124 : Cond.methodLink RX6 124 yX6_takeSounds ∈ lw_g := lw_c3 206 rfl rfl
set_option maxRecDepth 20000 in
theorem ml_X6_133 : Cond.methodLink RX6 133 yX8_isRow ∈ lw_g := lw_c3 210 rfl rfl
set_option maxRecDepth 20000 in
theorem ml_X6_142 : Cond.methodLink RX6 142 yX6_putSounds ∈ lw_g := lw_c3 214 rfl rfl
set_option maxRecDepth 20000 in
theorem ml_X6_129 : Cond.methodLink RX6 129 yX6_takeMeaning ∈ lw_g := lw_c3 219 rfl rfl
set_option maxRecDepth 20000 in
theorem ml_X6_99 : Cond.methodLink RX6 99 yX8_isMarked ∈ lw_g := lw_c3 224 rfl rfl
set_option maxRecDepth 20000 in
theorem ml_X6_75 : Cond.methodLink RX6 75 yX6_takeRule ∈ lw_g := lw_c3 228 rfl rfl
set_option maxRecDepth 20000 in
theorem ml_X6_78 : Cond.methodLink RX6 78 yX6_ruleNamed ∈ lw_g := lw_c3 232 rfl rfl
set_option maxRecDepth 20000 in
theorem ml_X11_119 : Cond.methodLink RX11 119 yX8_drain ∈ lw_g := lw_c4 3 rfl rfl
set_option maxRecDepth 20000 in
theorem ml_X11_122 : Cond.methodLink RX11 122 yX6_become ∈ lw_g := lw_c4 7 rfl rfl
set_option maxRecDepth 20000 in
theorem ml_X11_125 : Cond.methodLink RX11 125 yX1_forget ∈ lw_g := lw_c4 11 rfl rfl
set_option maxRecDepth 20000 in
theorem ml_X11_128 : Cond.methodLink RX11 128 yX5_forget ∈ lw_g := lw_c4 15 rfl rfl
set_option maxRecDepth 20000 in
theorem ml_X11_129 : Cond.methodLink RX11 129 yX3_forget ∈ lw_g := lw_c4 19 rfl rfl
set_option maxRecDepth 20000 in
theorem ml_X11_130 : Cond.methodLink RX11 130 yX10_forget ∈ lw_g := lw_c4 23 rfl rfl
set_option maxRecDepth 20000 in
theorem ml_X11_131 : Cond.methodLink RX11 131 yX2_forget ∈ lw_g := lw_c4 27 rfl rfl
set_option maxRecDepth 20000 in
theorem ml_X2_59 : Cond.methodLink RX2 59 yJ7_fill_53178 ∈ lw_g := lw_c4 31 rfl rfl
set_option maxRecDepth 20000 in
theorem ml_X11_132 : Cond.methodLink RX11 132 yX4_forgetFilled ∈ lw_g := lw_c4 34 rfl rfl
set_option maxRecDepth 20000 in
theorem ml_X11_146 : Cond.methodLink RX11 146 yX6_has ∈ lw_g := lw_c4 50 rfl rfl
set_option maxRecDepth 20000 in
theorem ml_X11_165 : Cond.methodLink RX11 165 yX11_soundOf ∈ lw_g := lw_c4 54 rfl rfl
set_option maxRecDepth 20000 in
theorem ml_X11_376 : Cond.methodLink RX11 376 yX11_soundAt ∈ lw_g := lw_c4 57 rfl rfl
set_option maxRecDepth 20000 in
theorem ml_X11_169 : Cond.methodLink RX11 169 yX8_next ∈ lw_g := lw_c4 64 rfl rfl
set_option maxRecDepth 20000 in
theorem ml_X11_179 : Cond.methodLink RX11 179 yX6_find ∈ lw_g := lw_c4 65 rfl rfl
set_option maxRecDepth 20000 in
theorem ml_X11_183 : Cond.methodLink RX11 183 yX0_take ∈ lw_g := lw_c4 70 rfl rfl
set_option maxRecDepth 20000 in
theorem ml_X0_37 : Cond.methodLink RX0 37 yX8_next ∈ lw_g := lw_c4 74 rfl rfl
set_option maxRecDepth 20000 in
theorem ml_X0_43 : Cond.methodLink RX0 43 yX0_isWhole ∈ lw_g := lw_c4 75 rfl rfl
set_option maxRecDepth 20000 in
theorem ml_X0_47 : Cond.methodLink RX0 47 yX8_refuse ∈ lw_g := lw_c4 79 rfl rfl
set_option maxRecDepth 20000 in
theorem ml_X0_51 : Cond.methodLink RX0 51 yX0_takeToken ∈ lw_g := lw_c4 80 rfl rfl
set_option maxRecDepth 20000 in
theorem ml_X0_55 : Cond.methodLink RX0 55 yX0_takeName ∈ lw_g := lw_c4 84 rfl rfl
set_option maxRecDepth 20000 in
theorem ml_X0_70 : Cond.methodLink RX0 70 yX0_wantsItem ∈ lw_g := lw_c4 88 rfl rfl
set_option maxRecDepth 20000 in
theorem ml_X0_73 : Cond.methodLink RX0 73 yX0_beginBlock ∈ lw_g := lw_c4 92 rfl rfl
set_option maxRecDepth 20000 in
theorem ml_X0_80 : Cond.methodLink RX0 80 yX6_find ∈ lw_g := lw_c4 96 rfl rfl
set_option maxRecDepth 20000 in
theorem ml_X0_86 : Cond.methodLink RX0 86 yX0_keep ∈ lw_g := lw_c4 97 rfl rfl
set_option maxRecDepth 20000 in
theorem ml_X0_61 : Cond.methodLink RX0 61 yX0_goesOn ∈ lw_g := lw_c4 101 rfl rfl
set_option maxRecDepth 20000 in
theorem ml_X0_64 : Cond.methodLink RX0 64 yX0_takeOpening ∈ lw_g := lw_c4 105 rfl rfl
set_option maxRecDepth 20000 in
theorem ml_X0_67 : Cond.methodLink RX0 67 yX0_takeOther ∈ lw_g := lw_c4 109 rfl rfl
set_option maxRecDepth 20000 in
theorem ml_X11_186 : Cond.methodLink RX11 186 yX1_layOut ∈ lw_g := lw_c4 113 rfl rfl
set_option maxRecDepth 20000 in
theorem ml_X1_56 : Cond.methodLink RX1 56 yX1_forget ∈ lw_g := lw_c4 117 rfl rfl
set_option maxRecDepth 20000 in
theorem ml_X1_68 : Cond.methodLink RX1 68 yX1_layBeside ∈ lw_g := lw_c4 118 rfl rfl
set_option maxRecDepth 20000 in
theorem ml_X1_72 : Cond.methodLink RX1 72 yX1_layOver ∈ lw_g := lw_c4 122 rfl rfl
set_option maxRecDepth 20000 in
theorem ml_X1_86 : Cond.methodLink RX1 86 yX1_layItem ∈ lw_g := lw_c4 126 rfl rfl
set_option maxRecDepth 20000 in
theorem ml_X1_79 : Cond.methodLink RX1 79 yX0_codeAt ∈ lw_g := lw_c4 130 rfl rfl
set_option maxRecDepth 20000 in
theorem ml_X1_89 : Cond.methodLink RX1 89 yX1_layWithInner ∈ lw_g := lw_c4 134 rfl rfl
set_option maxRecDepth 20000 in
theorem ml_X1_104 : Cond.methodLink RX1 104 yX1_putSign ∈ lw_g := lw_c4 142 rfl rfl
set_option maxRecDepth 20000 in
theorem ml_X1_108 : Cond.methodLink RX1 108 yX6_has ∈ lw_g := lw_c4 146 rfl rfl
set_option maxRecDepth 20000 in
theorem ml_X1_112 : Cond.methodLink RX1 112 yJ9_max_7cf53 ∈ lw_g := lw_c4 147 rfl rfl
set_option maxRecDepth 20000 in
theorem ml_X1_75 : Cond.methodLink RX1 75 yX1_waitWith ∈ lw_g := lw_c4 150 rfl rfl
set_option maxRecDepth 20000 in
theorem ml_X1_82 : Cond.methodLink RX1 82 yX1_settle ∈ lw_g := lw_c4 154 rfl rfl
set_option maxRecDepth 20000 in
theorem ml_X1_117 : Cond.methodLink RX1 117 yX1_across ∈ lw_g := lw_c4 158 rfl rfl
set_option maxRecDepth 20000 in
theorem ml_X1_123 : Cond.methodLink RX1 123 yX1_shift ∈ lw_g := lw_c4 168 rfl rfl
set_option maxRecDepth 20000 in
theorem ml_X11_193 : Cond.methodLink RX11 193 yX11_edgeOf ∈ lw_g := lw_c4 176 rfl rfl
set_option maxRecDepth 20000 in
theorem ml_X11_197 : Cond.methodLink RX11 197 yX11_widthOf ∈ lw_g := lw_c4 179 rfl rfl
set_option maxRecDepth 20000 in
theorem ml_X11_200 : Cond.methodLink RX11 200 yX11_heightOf ∈ lw_g := lw_c4 180 rfl rfl
set_option maxRecDepth 20000 in
theorem ml_X11_385 : Cond.methodLink RX11 385 yJ9_max_7cf53 ∈ lw_g := lw_c4 181 rfl rfl
set_option maxRecDepth 20000 in
theorem ml_X11_206 : Cond.methodLink RX11 206 yX6_percentOf ∈ lw_g := lw_c4 182 rfl rfl
set_option maxRecDepth 20000 in
theorem ml_X6_50 : Cond.methodLink RX6 50 yX6_shrunk ∈ lw_g := lw_c4 186 rfl rfl
set_option maxRecDepth 20000 in
theorem ml_X11_209 : Cond.methodLink RX11 209 yX6_isLegible ∈ lw_g := lw_c4 190 rfl rfl
set_option maxRecDepth 20000 in
theorem ml_X11_212 : Cond.methodLink RX11 212 yX6_shrunk ∈ lw_g := lw_c4 194 rfl rfl
set_option maxRecDepth 20000 in
theorem ml_X11_229 : Cond.methodLink RX11 229 yX1_leftEdge ∈ lw_g := lw_c4 199 rfl rfl
set_option maxRecDepth 20000 in
theorem ml_X1_139 : Cond.methodLink RX1 139 yX1_shrunkAs ∈ lw_g := lw_c4 203 rfl rfl
set_option maxRecDepth 20000 in
theorem ml_X1_136 : Cond.methodLink RX1 136 yX6_shrunk ∈ lw_g := lw_c4 208 rfl rfl
set_option maxRecDepth 20000 in
theorem ml_X1_142 : Cond.methodLink RX1 142 yX1_boxWidth ∈ lw_g := lw_c4 209 rfl rfl
set_option maxRecDepth 20000 in
theorem ml_X11_233 : Cond.methodLink RX11 233 yX1_upperEdge ∈ lw_g := lw_c4 213 rfl rfl
set_option maxRecDepth 20000 in
theorem ml_X11_236 : Cond.methodLink RX11 236 yX1_boxWidth ∈ lw_g := lw_c4 217 rfl rfl
set_option maxRecDepth 20000 in
theorem ml_X11_239 : Cond.methodLink RX11 239 yX1_boxHeight ∈ lw_g := lw_c4 218 rfl rfl
set_option maxRecDepth 20000 in
theorem ml_X11_242 : Cond.methodLink RX11 242 yX9_take ∈ lw_g := lw_c4 230 rfl rfl
set_option maxRecDepth 20000 in
theorem ml_X9_29 : Cond.methodLink RX9 29 yX8_next ∈ lw_g := lw_c4 234 rfl rfl
set_option maxRecDepth 20000 in
theorem ml_X9_41 : Cond.methodLink RX9 41 yX8_isRow ∈ lw_g := lw_c4 235 rfl rfl
set_option maxRecDepth 20000 in
theorem ml_X9_51 : Cond.methodLink RX9 51 yX9_isNamed ∈ lw_g := lw_c4 236 rfl rfl
set_option maxRecDepth 20000 in
theorem ml_X9_55 : Cond.methodLink RX9 55 yX9_put ∈ lw_g := lw_c5 0 rfl rfl
set_option maxRecDepth 20000 in
theorem ml_X11_243 : Cond.methodLink RX11 243 yX9_has ∈ lw_g := lw_c5 8 rfl rfl
set_option maxRecDepth 20000 in
theorem ml_X11_249 : Cond.methodLink RX11 249 yX2_spellingsOf ∈ lw_g := lw_c5 16 rfl rfl
set_option maxRecDepth 20000 in
theorem ml_X2_71 : Cond.methodLink RX2 71 yX2_isNew ∈ lw_g := lw_c5 20 rfl rfl
set_option maxRecDepth 20000 in
theorem ml_X2_75 : Cond.methodLink RX2 75 yX7_look ∈ lw_g := lw_c5 24 rfl rfl
set_option maxRecDepth 20000 in
theorem ml_X2_81 : Cond.methodLink RX2 81 yX7_countAll ∈ lw_g := lw_c5 28 rfl rfl
set_option maxRecDepth 20000 in
theorem ml_X7_84 : Cond.methodLink RX7 84 yX7_isIdea ∈ lw_g := lw_c5 32 rfl rfl
set_option maxRecDepth 20000 in
theorem ml_X7_88 : Cond.methodLink RX7 88 yX7_isTail ∈ lw_g := lw_c5 36 rfl rfl
set_option maxRecDepth 20000 in
theorem ml_X7_66 : Cond.methodLink RX7 66 yX7_covers ∈ lw_g := lw_c5 40 rfl rfl
set_option maxRecDepth 20000 in
theorem ml_X7_108 : Cond.methodLink RX7 108 yX7_isOfKind ∈ lw_g := lw_c5 44 rfl rfl
set_option maxRecDepth 20000 in
theorem ml_X7_112 : Cond.methodLink RX7 112 yX7_forgetCovers ∈ lw_g := lw_c5 48 rfl rfl
set_option maxRecDepth 20000 in
theorem ml_X7_124 : Cond.methodLink RX7 124 yJ7_fill_53178 ∈ lw_g := lw_c5 52 rfl rfl
set_option maxRecDepth 20000 in
theorem ml_X7_115 : Cond.methodLink RX7 115 yX7_coversBehind ∈ lw_g := lw_c5 53 rfl rfl
set_option maxRecDepth 20000 in
theorem ml_X7_105 : Cond.methodLink RX7 105 yX7_isCover ∈ lw_g := lw_c5 57 rfl rfl
set_option maxRecDepth 20000 in
theorem ml_X7_101 : Cond.methodLink RX7 101 yX7_step ∈ lw_g := lw_c5 61 rfl rfl
set_option maxRecDepth 20000 in
theorem ml_X7_77 : Cond.methodLink RX7 77 yX7_echoes ∈ lw_g := lw_c5 65 rfl rfl
set_option maxRecDepth 20000 in
theorem ml_X7_119 : Cond.methodLink RX7 119 yJ9_min_7cf53 ∈ lw_g := lw_c5 71 rfl rfl
set_option maxRecDepth 20000 in
theorem ml_X7_91 : Cond.methodLink RX7 91 yX7_hasKind ∈ lw_g := lw_c5 74 rfl rfl
set_option maxRecDepth 20000 in
theorem ml_X11_253 : Cond.methodLink RX11 253 yX2_bestPaint ∈ lw_g := lw_c5 83 rfl rfl
set_option maxRecDepth 20000 in
theorem ml_X2_85 : Cond.methodLink RX2 85 yX2_findBest ∈ lw_g := lw_c5 87 rfl rfl
set_option maxRecDepth 20000 in
theorem ml_X2_98 : Cond.methodLink RX2 98 yX2_coverFrom ∈ lw_g := lw_c5 92 rfl rfl
set_option maxRecDepth 20000 in
theorem ml_X2_124 : Cond.methodLink RX2 124 yX7_covers ∈ lw_g := lw_c5 96 rfl rfl
set_option maxRecDepth 20000 in
theorem ml_X2_120 : Cond.methodLink RX2 120 yX2_improveBy ∈ lw_g := lw_c5 97 rfl rfl
set_option maxRecDepth 20000 in
theorem ml_X2_106 : Cond.methodLink RX2 106 yX2_costOf ∈ lw_g := lw_c5 101 rfl rfl
set_option maxRecDepth 20000 in
theorem ml_X2_65 : Cond.methodLink RX2 65 yX6_paintOf ∈ lw_g := lw_c5 105 rfl rfl
set_option maxRecDepth 20000 in
theorem ml_X2_109 : Cond.methodLink RX2 109 yX2_improve ∈ lw_g := lw_c5 113 rfl rfl
set_option maxRecDepth 20000 in
theorem ml_X2_102 : Cond.methodLink RX2 102 yX7_isIdea ∈ lw_g := lw_c5 117 rfl rfl
set_option maxRecDepth 20000 in
theorem ml_X2_113 : Cond.methodLink RX2 113 yX7_hasKind ∈ lw_g := lw_c5 118 rfl rfl
set_option maxRecDepth 20000 in
theorem ml_X2_117 : Cond.methodLink RX2 117 yX7_isOfKind ∈ lw_g := lw_c5 119 rfl rfl
set_option maxRecDepth 20000 in
theorem ml_X11_256 : Cond.methodLink RX11 256 yX2_bestSignAt ∈ lw_g := lw_c5 124 rfl rfl
set_option maxRecDepth 20000 in
theorem ml_X11_259 : Cond.methodLink RX11 259 yX5_take ∈ lw_g := lw_c5 136 rfl rfl
set_option maxRecDepth 20000 in
theorem ml_X5_61 : Cond.methodLink RX5 61 yX8_next ∈ lw_g := lw_c5 140 rfl rfl
set_option maxRecDepth 20000 in
theorem ml_X5_69 : Cond.methodLink RX5 69 yX5_keepDraft ∈ lw_g := lw_c5 141 rfl rfl
set_option maxRecDepth 20000 in
theorem ml_X5_83 : Cond.methodLink RX5 83 ⟨"java/lang/System", "arraycopy", "(Ljava/lang/Object;ILjava/lang/Object;II)V"⟩ ∈ lw_g := lw_c5 145 rfl rfl
set_option maxRecDepth 20000 in
theorem ml_X5_77 : Cond.methodLink RX5 77 yX6_find ∈ lw_g := lw_c5 146 rfl rfl
set_option maxRecDepth 20000 in
theorem ml_X11_264 : Cond.methodLink RX11 264 yX5_countWays ∈ lw_g := lw_c5 155 rfl rfl
set_option maxRecDepth 20000 in
theorem ml_X5_89 : Cond.methodLink RX5 89 yX7_look ∈ lw_g := lw_c5 159 rfl rfl
set_option maxRecDepth 20000 in
theorem ml_X5_95 : Cond.methodLink RX5 95 yX7_endsFrom ∈ lw_g := lw_c5 160 rfl rfl
set_option maxRecDepth 20000 in
theorem ml_X7_80 : Cond.methodLink RX7 80 yX7_coverEnds ∈ lw_g := lw_c5 164 rfl rfl
set_option maxRecDepth 20000 in
theorem ml_X7_95 : Cond.methodLink RX7 95 yX7_endsOfKind ∈ lw_g := lw_c5 168 rfl rfl
set_option maxRecDepth 20000 in
theorem ml_X5_100 : Cond.methodLink RX5 100 yX5_waysBehind ∈ lw_g := lw_c5 172 rfl rfl
set_option maxRecDepth 20000 in
theorem ml_X5_106 : Cond.methodLink RX5 106 yJ9_min_f86c9 ∈ lw_g := lw_c5 177 rfl rfl
set_option maxRecDepth 20000 in
theorem ml_X11_268 : Cond.methodLink RX11 268 yX11_isDay ∈ lw_g := lw_c5 185 rfl rfl
set_option maxRecDepth 20000 in
theorem ml_X11_271 : Cond.methodLink RX11 271 yX10_applyTo ∈ lw_g := lw_c5 188 rfl rfl
set_option maxRecDepth 20000 in
theorem ml_X10_37 : Cond.methodLink RX10 37 yX10_latestFor ∈ lw_g := lw_c5 192 rfl rfl
set_option maxRecDepth 20000 in
theorem ml_X10_41 : Cond.methodLink RX10 41 yX6_putSounds ∈ lw_g := lw_c5 196 rfl rfl
set_option maxRecDepth 20000 in
theorem ml_X11_275 : Cond.methodLink RX11 275 yX5_findFirstWay ∈ lw_g := lw_c5 201 rfl rfl
set_option maxRecDepth 20000 in
theorem ml_X5_114 : Cond.methodLink RX5 114 yX5_findEnds ∈ lw_g := lw_c5 205 rfl rfl
set_option maxRecDepth 20000 in
theorem ml_X5_117 : Cond.methodLink RX5 117 yX5_findFewest ∈ lw_g := lw_c5 209 rfl rfl
set_option maxRecDepth 20000 in
theorem ml_X5_126 : Cond.methodLink RX5 126 yJ7_fill_53178 ∈ lw_g := lw_c5 213 rfl rfl
set_option maxRecDepth 20000 in
theorem ml_X5_120 : Cond.methodLink RX5 120 yX5_chooseTerms ∈ lw_g := lw_c5 214 rfl rfl
set_option maxRecDepth 20000 in
theorem ml_X5_132 : Cond.methodLink RX5 132 yX5_endsFromAny ∈ lw_g := lw_c5 218 rfl rfl
set_option maxRecDepth 20000 in
theorem ml_X5_123 : Cond.methodLink RX5 123 yX5_chooseLengths ∈ lw_g := lw_c5 222 rfl rfl
set_option maxRecDepth 20000 in
theorem ml_X11_288 : Cond.methodLink RX11 288 yX5_isSpellingOf ∈ lw_g := lw_c5 234 rfl rfl
set_option maxRecDepth 20000 in
theorem ml_X11_291 : Cond.methodLink RX11 291 yX3_arrange ∈ lw_g := lw_c6 2 rfl rfl
set_option maxRecDepth 20000 in
theorem ml_X3_37 : Cond.methodLink RX3 37 yX3_choose ∈ lw_g := lw_c6 6 rfl rfl
set_option maxRecDepth 20000 in
theorem ml_X3_48 : Cond.methodLink RX3 48 yX3_edgeIn ∈ lw_g := lw_c6 12 rfl rfl
set_option maxRecDepth 20000 in
theorem ml_X3_77 : Cond.methodLink RX3 77 yJ9_max_7cf53 ∈ lw_g := lw_c6 20 rfl rfl
set_option maxRecDepth 20000 in
theorem ml_X3_52 : Cond.methodLink RX3 52 yX6_isLegible ∈ lw_g := lw_c6 21 rfl rfl
set_option maxRecDepth 20000 in
theorem ml_X3_58 : Cond.methodLink RX3 58 yX6_percentOf ∈ lw_g := lw_c6 22 rfl rfl
set_option maxRecDepth 20000 in
theorem ml_X3_41 : Cond.methodLink RX3 41 yX3_keepChoices ∈ lw_g := lw_c6 23 rfl rfl
set_option maxRecDepth 20000 in
theorem ml_X11_305 : Cond.methodLink RX11 305 yX4_put ∈ lw_g := lw_c6 39 rfl rfl
set_option maxRecDepth 20000 in
theorem ml_X4_45 : Cond.methodLink RX4 45 yX4_forgetFilled ∈ lw_g := lw_c6 43 rfl rfl
set_option maxRecDepth 20000 in
theorem ml_X11_310 : Cond.methodLink RX11 310 yX2_settle ∈ lw_g := lw_c6 48 rfl rfl
set_option maxRecDepth 20000 in
theorem ml_X2_134 : Cond.methodLink RX2 134 yX2_spellingsOf ∈ lw_g := lw_c6 52 rfl rfl
set_option maxRecDepth 20000 in
theorem ml_X2_137 : Cond.methodLink RX2 137 yX2_emptySlots ∈ lw_g := lw_c6 53 rfl rfl
set_option maxRecDepth 20000 in
theorem ml_X2_140 : Cond.methodLink RX2 140 yX2_trySpellings ∈ lw_g := lw_c6 57 rfl rfl
set_option maxRecDepth 20000 in
theorem ml_X2_146 : Cond.methodLink RX2 146 yX7_forgetCovers ∈ lw_g := lw_c6 61 rfl rfl
set_option maxRecDepth 20000 in
theorem ml_X2_149 : Cond.methodLink RX2 149 yX2_tryIdeas ∈ lw_g := lw_c6 62 rfl rfl
set_option maxRecDepth 20000 in
theorem ml_X2_155 : Cond.methodLink RX2 155 yX2_putTrial ∈ lw_g := lw_c6 66 rfl rfl
set_option maxRecDepth 20000 in
theorem ml_X2_183 : Cond.methodLink RX2 183 yX3_edgeIn ∈ lw_g := lw_c6 71 rfl rfl
set_option maxRecDepth 20000 in
theorem ml_X2_187 : Cond.methodLink RX2 187 yX6_isLegible ∈ lw_g := lw_c6 72 rfl rfl
set_option maxRecDepth 20000 in
theorem ml_X2_159 : Cond.methodLink RX2 159 yX2_tryBody ∈ lw_g := lw_c6 73 rfl rfl
set_option maxRecDepth 20000 in
theorem ml_X2_175 : Cond.methodLink RX2 175 yX2_keepTrial ∈ lw_g := lw_c6 77 rfl rfl
set_option maxRecDepth 20000 in
theorem ml_X2_162 : Cond.methodLink RX2 162 yX7_isTail ∈ lw_g := lw_c6 81 rfl rfl
set_option maxRecDepth 20000 in
theorem ml_X2_152 : Cond.methodLink RX2 152 yX2_tryCovers ∈ lw_g := lw_c6 82 rfl rfl
set_option maxRecDepth 20000 in
theorem ml_X2_165 : Cond.methodLink RX2 165 yX7_isCover ∈ lw_g := lw_c6 86 rfl rfl
set_option maxRecDepth 20000 in
theorem ml_X2_168 : Cond.methodLink RX2 168 yX7_step ∈ lw_g := lw_c6 87 rfl rfl
set_option maxRecDepth 20000 in
theorem ml_X11_314 : Cond.methodLink RX11 314 yX4_fillWith ∈ lw_g := lw_c6 89 rfl rfl
set_option maxRecDepth 20000 in
theorem ml_X4_67 : Cond.methodLink RX4 67 yX4_plan ∈ lw_g := lw_c6 93 rfl rfl
set_option maxRecDepth 20000 in
theorem ml_X4_49 : Cond.methodLink RX4 49 yX4_leastFrom ∈ lw_g := lw_c6 98 rfl rfl
set_option maxRecDepth 20000 in
theorem ml_X4_55 : Cond.methodLink RX4 55 yX4_paintWith ∈ lw_g := lw_c6 102 rfl rfl
set_option maxRecDepth 20000 in
theorem ml_X4_64 : Cond.methodLink RX4 64 yX2_slotPaint ∈ lw_g := lw_c6 106 rfl rfl
set_option maxRecDepth 20000 in
theorem ml_X4_59 : Cond.methodLink RX4 59 yJ9_min_7cf53 ∈ lw_g := lw_c6 110 rfl rfl
set_option maxRecDepth 20000 in
theorem ml_X4_70 : Cond.methodLink RX4 70 yX2_slotLength ∈ lw_g := lw_c6 111 rfl rfl
set_option maxRecDepth 20000 in
theorem ml_X4_73 : Cond.methodLink RX4 73 yX2_slotRow ∈ lw_g := lw_c6 115 rfl rfl
set_option maxRecDepth 20000 in
theorem ml_X11_329 : Cond.methodLink RX11 329 yX11_signOf ∈ lw_g := lw_c6 123 rfl rfl
set_option maxRecDepth 20000 in
theorem ml_X11_333 : Cond.methodLink RX11 333 yX4_countFills ∈ lw_g := lw_c6 128 rfl rfl
set_option maxRecDepth 20000 in
theorem ml_X11_336 : Cond.methodLink RX11 336 yX1_firstIllegible ∈ lw_g := lw_c6 136 rfl rfl
set_option maxRecDepth 20000 in
theorem ml_X1_145 : Cond.methodLink RX1 145 yX6_isLegible ∈ lw_g := lw_c6 140 rfl rfl
set_option maxRecDepth 20000 in
theorem ml_X11_339 : Cond.methodLink RX11 339 yX11_judgeSpellings ∈ lw_g := lw_c6 141 rfl rfl
set_option maxRecDepth 20000 in
theorem ml_X11_342 : Cond.methodLink RX11 342 yX7_look ∈ lw_g := lw_c6 145 rfl rfl
set_option maxRecDepth 20000 in
theorem ml_X11_346 : Cond.methodLink RX11 346 yX7_endsFromAny ∈ lw_g := lw_c6 146 rfl rfl
set_option maxRecDepth 20000 in
theorem ml_X7_98 : Cond.methodLink RX7 98 yX7_endsFrom ∈ lw_g := lw_c6 150 rfl rfl
set_option maxRecDepth 20000 in
theorem ml_X11_350 : Cond.methodLink RX11 350 yX8_isRow ∈ lw_g := lw_c6 155 rfl rfl
set_option maxRecDepth 20000 in
theorem ml_X11_362 : Cond.methodLink RX11 362 yX10_put ∈ lw_g := lw_c6 156 rfl rfl
set_option maxRecDepth 20000 in
theorem ml_X11_365 : Cond.methodLink RX11 365 yX10_putSounds ∈ lw_g := lw_c6 160 rfl rfl
set_option maxRecDepth 20000 in
theorem ml_X11_369 : Cond.methodLink RX11 369 yX10_latestFor ∈ lw_g := lw_c6 168 rfl rfl
set_option maxRecDepth 20000 in
theorem ml_X12_1 : Cond.methodLink RX12 1 ⟨"java/lang/Object", "<init>", "()V"⟩ ∈ lw_g := lw_c6 178 rfl rfl
set_option maxRecDepth 20000 in
theorem ml_X12_224 : Cond.methodLink RX12 224 yX12_beginDraft ∈ lw_g := lw_c6 179 rfl rfl
set_option maxRecDepth 20000 in
theorem ml_X12_227 : Cond.methodLink RX12 227 yX12_takeDraft ∈ lw_g := lw_c6 183 rfl rfl
set_option maxRecDepth 20000 in
theorem ml_X12_320 : Cond.methodLink RX12 320 yX12_take ∈ lw_g := lw_c8 33 rfl rfl
set_option maxRecDepth 20000 in
theorem ml_X12_239 : Cond.methodLink RX12 239 yX12_scan ∈ lw_g := lw_c8 37 rfl rfl
set_option maxRecDepth 20000 in
theorem ml_X12_254 : Cond.methodLink RX12 254 yX12_see ∈ lw_g := lw_c8 41 rfl rfl
set_option maxRecDepth 20000 in
theorem ml_X12_267 : Cond.methodLink RX12 267 yX12_isSmall ∈ lw_g := lw_c8 45 rfl rfl
set_option maxRecDepth 20000 in
theorem ml_X12_279 : Cond.methodLink RX12 279 yX12_keyAt ∈ lw_g := lw_c8 50 rfl rfl
set_option maxRecDepth 20000 in
theorem ml_X12_244 : Cond.methodLink RX12 244 yJ0_length_8abf5 ∈ lw_g := lw_c8 55 rfl rfl
set_option maxRecDepth 20000 in
theorem ml_X12_250 : Cond.methodLink RX12 250 yJ0_charAt_5068e ∈ lw_g := lw_c8 56 rfl rfl
set_option maxRecDepth 20000 in
theorem ml_X12_283 : Cond.methodLink RX12 283 yX12_isDigit ∈ lw_g := lw_c8 57 rfl rfl
set_option maxRecDepth 20000 in
theorem ml_X12_323 : Cond.methodLink RX12 323 yX12_readClause ∈ lw_g := lw_c8 60 rfl rfl
set_option maxRecDepth 20000 in
theorem ml_X12_295 : Cond.methodLink RX12 295 yX12_in ∈ lw_g := lw_c8 64 rfl rfl
set_option maxRecDepth 20000 in
theorem ml_X12_292 : Cond.methodLink RX12 292 yX12_fails ∈ lw_g := lw_c8 67 rfl rfl
set_option maxRecDepth 20000 in
theorem ml_X12_314 : Cond.methodLink RX12 314 yX12_readSign ∈ lw_g := lw_c8 71 rfl rfl
set_option maxRecDepth 20000 in
theorem ml_X12_302 : Cond.methodLink RX12 302 yX12_signOf ∈ lw_g := lw_c8 75 rfl rfl
set_option maxRecDepth 20000 in
theorem ml_X12_306 : Cond.methodLink RX12 306 yX12_readNumber ∈ lw_g := lw_c8 79 rfl rfl
set_option maxRecDepth 20000 in
theorem ml_X12_310 : Cond.methodLink RX12 310 yX12_isRow ∈ lw_g := lw_c8 83 rfl rfl
set_option maxRecDepth 20000 in
theorem ml_X12_392 : Cond.methodLink RX12 392 yX12_readBlocks ∈ lw_g := lw_c8 103 rfl rfl
set_option maxRecDepth 20000 in
theorem ml_X12_359 : Cond.methodLink RX12 359 yX12_readBlock ∈ lw_g := lw_c8 107 rfl rfl
set_option maxRecDepth 20000 in
theorem ml_X12_371 : Cond.methodLink RX12 371 yX12_readRowOf ∈ lw_g := lw_c8 111 rfl rfl
set_option maxRecDepth 20000 in
theorem ml_X12_374 : Cond.methodLink RX12 374 yX12_readItem ∈ lw_g := lw_c8 115 rfl rfl
set_option maxRecDepth 20000 in
theorem ml_X12_362 : Cond.methodLink RX12 362 yX12_readName ∈ lw_g := lw_c8 119 rfl rfl
set_option maxRecDepth 20000 in
theorem ml_X12_365 : Cond.methodLink RX12 365 yX12_makePart ∈ lw_g := lw_c8 123 rfl rfl
set_option maxRecDepth 20000 in
theorem ml_X12_377 : Cond.methodLink RX12 377 yX12_measure ∈ lw_g := lw_c8 127 rfl rfl
set_option maxRecDepth 20000 in
theorem ml_X12_381 : Cond.methodLink RX12 381 yX12_greater ∈ lw_g := lw_c8 131 rfl rfl
set_option maxRecDepth 20000 in
theorem ml_X12_388 : Cond.methodLink RX12 388 yX12_lay ∈ lw_g := lw_c8 134 rfl rfl
set_option maxRecDepth 20000 in
theorem ml_X12_384 : Cond.methodLink RX12 384 yX12_layOne ∈ lw_g := lw_c8 138 rfl rfl
set_option maxRecDepth 20000 in
theorem ml_X12_398 : Cond.methodLink RX12 398 yX12_percent ∈ lw_g := lw_c8 146 rfl rfl
set_option maxRecDepth 20000 in
theorem ml_X12_395 : Cond.methodLink RX12 395 yX12_greatest ∈ lw_g := lw_c8 150 rfl rfl
set_option maxRecDepth 20000 in
theorem ml_X12_401 : Cond.methodLink RX12 401 yX12_shrunk ∈ lw_g := lw_c8 154 rfl rfl
set_option maxRecDepth 20000 in
theorem ml_X12_411 : Cond.methodLink RX12 411 yX12_isTerm ∈ lw_g := lw_c8 174 rfl rfl
set_option maxRecDepth 20000 in
theorem ml_X12_469 : Cond.methodLink RX12 469 yX12_goThrough ∈ lw_g := lw_c8 183 rfl rfl
set_option maxRecDepth 20000 in
theorem ml_X12_462 : Cond.methodLink RX12 462 yX12_asListed ∈ lw_g := lw_c8 187 rfl rfl
set_option maxRecDepth 20000 in
theorem ml_X12_465 : Cond.methodLink RX12 465 yX12_makeLeft ∈ lw_g := lw_c8 191 rfl rfl
set_option maxRecDepth 20000 in
theorem ml_X12_414 : Cond.methodLink RX12 414 yX12_isAt ∈ lw_g := lw_c8 196 rfl rfl
set_option maxRecDepth 20000 in
theorem ml_X12_420 : Cond.methodLink RX12 420 yX12_isIdea ∈ lw_g := lw_c8 200 rfl rfl
set_option maxRecDepth 20000 in
theorem ml_X12_451 : Cond.methodLink RX12 451 yX12_bodyComes ∈ lw_g := lw_c8 204 rfl rfl
set_option maxRecDepth 20000 in
theorem ml_X12_417 : Cond.methodLink RX12 417 yX12_isKind ∈ lw_g := lw_c8 208 rfl rfl
set_option maxRecDepth 20000 in
theorem ml_X12_448 : Cond.methodLink RX12 448 yX12_spellingComes ∈ lw_g := lw_c8 212 rfl rfl
set_option maxRecDepth 20000 in
theorem ml_X12_511 : Cond.methodLink RX12 511 yX12_groups ∈ lw_g := lw_c8 216 rfl rfl
set_option maxRecDepth 20000 in
theorem ml_X12_507 : Cond.methodLink RX12 507 yX12_percentOf ∈ lw_g := lw_c8 221 rfl rfl
set_option maxRecDepth 20000 in
theorem ml_X12_504 : Cond.methodLink RX12 504 yX12_beside ∈ lw_g := lw_c8 225 rfl rfl
set_option maxRecDepth 20000 in
theorem ml_X12_473 : Cond.methodLink RX12 473 yX12_paint ∈ lw_g := lw_c8 229 rfl rfl
set_option maxRecDepth 20000 in
theorem ml_X12_423 : Cond.methodLink RX12 423 yX12_isTail ∈ lw_g := lw_c8 233 rfl rfl
set_option maxRecDepth 20000 in
theorem ml_X12_426 : Cond.methodLink RX12 426 yX12_beginCover ∈ lw_g := lw_c8 237 rfl rfl
set_option maxRecDepth 20000 in
theorem ml_X12_458 : Cond.methodLink RX12 458 yX12_coversFrom ∈ lw_g := lw_c9 1 rfl rfl
set_option maxRecDepth 20000 in
theorem ml_X12_432 : Cond.methodLink RX12 432 yX12_isCovered ∈ lw_g := lw_c9 5 rfl rfl
set_option maxRecDepth 20000 in
theorem ml_X12_429 : Cond.methodLink RX12 429 yX12_coverOn ∈ lw_g := lw_c9 9 rfl rfl
set_option maxRecDepth 20000 in
theorem ml_X12_455 : Cond.methodLink RX12 455 yX12_canEnd ∈ lw_g := lw_c9 13 rfl rfl
set_option maxRecDepth 20000 in
theorem ml_X12_479 : Cond.methodLink RX12 479 yX12_bestOf ∈ lw_g := lw_c9 21 rfl rfl
set_option maxRecDepth 20000 in
theorem ml_X12_492 : Cond.methodLink RX12 492 yX12_waysNow ∈ lw_g := lw_c9 41 rfl rfl
set_option maxRecDepth 20000 in
theorem ml_X12_486 : Cond.methodLink RX12 486 yX12_makeSpells ∈ lw_g := lw_c9 45 rfl rfl
set_option maxRecDepth 20000 in
theorem ml_X12_482 : Cond.methodLink RX12 482 yX12_isSpelling ∈ lw_g := lw_c9 49 rfl rfl
set_option maxRecDepth 20000 in
theorem ml_X12_495 : Cond.methodLink RX12 495 yX12_isDay ∈ lw_g := lw_c9 59 rfl rfl
set_option maxRecDepth 20000 in
theorem ml_X12_498 : Cond.methodLink RX12 498 yX12_valueAt ∈ lw_g := lw_c9 62 rfl rfl
set_option maxRecDepth 20000 in
theorem ml_X12_521 : Cond.methodLink RX12 521 yX12_makeFits ∈ lw_g := lw_c9 98 rfl rfl
set_option maxRecDepth 20000 in
theorem ml_X12_524 : Cond.methodLink RX12 524 yX12_block ∈ lw_g := lw_c9 114 rfl rfl
set_option maxRecDepth 20000 in
theorem cl_X0 : Cond.initialized RX0 ∈ lw_g ∧ RX0 ≠ "java/lang/invoke/MethodHandle" ∧ RX0 ≠ "java/lang/invoke/VarHandle" := ⟨lw_c1 5 rfl rfl, by decide +kernel, by decide +kernel⟩
theorem pn_X0 : plainName RX0 = true := by decide +kernel
set_option maxRecDepth 20000 in
theorem mf_X0_init : xMf yX0_init cX0_init 2 none 1 := ⟨lw_c1 167 rfl rfl, cl_X0.1, cl_X0.2.1, cl_X0.2.2, by decide +kernel⟩
set_option maxRecDepth 20000 in
theorem mf_X0_take : xMf yX0_take cX0_take 3 (some .boolean) 1 := ⟨lw_c4 73 rfl rfl, cl_X0.1, cl_X0.2.1, cl_X0.2.2, by decide +kernel⟩
set_option maxRecDepth 20000 in
theorem mv_X0_take : xMv yX0_take := ⟨lw_c4 71 rfl rfl, lw_c4 72 rfl rfl⟩
set_option maxRecDepth 20000 in
theorem mf_X0_codeAt : xMf yX0_codeAt cX0_codeAt 2 (some .int) 1 := ⟨lw_c4 133 rfl rfl, cl_X0.1, cl_X0.2.1, cl_X0.2.2, by decide +kernel⟩
set_option maxRecDepth 20000 in
theorem mv_X0_codeAt : xMv yX0_codeAt := ⟨lw_c4 131 rfl rfl, lw_c4 132 rfl rfl⟩
set_option maxRecDepth 20000 in
theorem mf_X0_isWhole : xMf yX0_isWhole cX0_isWhole 1 (some .boolean) 0 := ⟨lw_c4 78 rfl rfl, cl_X0.1, cl_X0.2.1, cl_X0.2.2, by decide +kernel⟩
set_option maxRecDepth 20000 in
theorem mv_X0_isWhole : xMv yX0_isWhole := ⟨lw_c4 77 rfl rfl, lw_gp (List.mem_of_getElem? (i := 8) (by decide +kernel)) rfl⟩
set_option maxRecDepth 20000 in
theorem mf_X0_wantsItem : xMf yX0_wantsItem cX0_wantsItem 1 (some .boolean) 0 := ⟨lw_c4 91 rfl rfl, cl_X0.1, cl_X0.2.1, cl_X0.2.2, by decide +kernel⟩
set_option maxRecDepth 20000 in
theorem mv_X0_wantsItem : xMv yX0_wantsItem := ⟨lw_c4 90 rfl rfl, lw_gp (List.mem_of_getElem? (i := 11) (by decide +kernel)) rfl⟩
set_option maxRecDepth 20000 in
theorem mf_X0_takeToken : xMf yX0_takeToken cX0_takeToken 2 (some .boolean) 1 := ⟨lw_c4 83 rfl rfl, cl_X0.1, cl_X0.2.1, cl_X0.2.2, by decide +kernel⟩
set_option maxRecDepth 20000 in
theorem mv_X0_takeToken : xMv yX0_takeToken := ⟨lw_c4 82 rfl rfl, lw_gp (List.mem_of_getElem? (i := 9) (by decide +kernel)) rfl⟩
set_option maxRecDepth 20000 in
theorem mf_X0_goesOn : xMf yX0_goesOn cX0_goesOn 2 (some .boolean) 1 := ⟨lw_c4 104 rfl rfl, cl_X0.1, cl_X0.2.1, cl_X0.2.2, by decide +kernel⟩
set_option maxRecDepth 20000 in
theorem mv_X0_goesOn : xMv yX0_goesOn := ⟨lw_c4 103 rfl rfl, lw_gp (List.mem_of_getElem? (i := 14) (by decide +kernel)) rfl⟩
set_option maxRecDepth 20000 in
theorem mf_X0_takeName : xMf yX0_takeName cX0_takeName 3 (some .boolean) 1 := ⟨lw_c4 87 rfl rfl, cl_X0.1, cl_X0.2.1, cl_X0.2.2, by decide +kernel⟩
set_option maxRecDepth 20000 in
theorem mv_X0_takeName : xMv yX0_takeName := ⟨lw_c4 86 rfl rfl, lw_gp (List.mem_of_getElem? (i := 10) (by decide +kernel)) rfl⟩
set_option maxRecDepth 20000 in
theorem mf_X0_takeOpening : xMf yX0_takeOpening cX0_takeOpening 2 (some .boolean) 1 := ⟨lw_c4 108 rfl rfl, cl_X0.1, cl_X0.2.1, cl_X0.2.2, by decide +kernel⟩
set_option maxRecDepth 20000 in
theorem mv_X0_takeOpening : xMv yX0_takeOpening := ⟨lw_c4 107 rfl rfl, lw_gp (List.mem_of_getElem? (i := 15) (by decide +kernel)) rfl⟩
set_option maxRecDepth 20000 in
theorem mf_X0_takeOther : xMf yX0_takeOther cX0_takeOther 2 (some .boolean) 1 := ⟨lw_c4 112 rfl rfl, cl_X0.1, cl_X0.2.1, cl_X0.2.2, by decide +kernel⟩
set_option maxRecDepth 20000 in
theorem mv_X0_takeOther : xMv yX0_takeOther := ⟨lw_c4 111 rfl rfl, lw_gp (List.mem_of_getElem? (i := 16) (by decide +kernel)) rfl⟩
set_option maxRecDepth 20000 in
theorem mf_X0_beginBlock : xMf yX0_beginBlock cX0_beginBlock 1 (some .boolean) 0 := ⟨lw_c4 95 rfl rfl, cl_X0.1, cl_X0.2.1, cl_X0.2.2, by decide +kernel⟩
set_option maxRecDepth 20000 in
theorem mv_X0_beginBlock : xMv yX0_beginBlock := ⟨lw_c4 94 rfl rfl, lw_gp (List.mem_of_getElem? (i := 12) (by decide +kernel)) rfl⟩
set_option maxRecDepth 20000 in
theorem mf_X0_keep : xMf yX0_keep cX0_keep 2 none 1 := ⟨lw_c4 100 rfl rfl, cl_X0.1, cl_X0.2.1, cl_X0.2.2, by decide +kernel⟩
set_option maxRecDepth 20000 in
theorem mv_X0_keep : xMv yX0_keep := ⟨lw_c4 99 rfl rfl, lw_gp (List.mem_of_getElem? (i := 13) (by decide +kernel)) rfl⟩
set_option maxRecDepth 20000 in
theorem cl_X1 : Cond.initialized RX1 ∈ lw_g ∧ RX1 ≠ "java/lang/invoke/MethodHandle" ∧ RX1 ≠ "java/lang/invoke/VarHandle" := ⟨lw_c1 6 rfl rfl, by decide +kernel, by decide +kernel⟩
theorem pn_X1 : plainName RX1 = true := by decide +kernel
set_option maxRecDepth 20000 in
theorem mf_X1_init : xMf yX1_init cX1_init 3 none 2 := ⟨lw_c1 196 rfl rfl, cl_X1.1, cl_X1.2.1, cl_X1.2.2, by decide +kernel⟩
set_option maxRecDepth 20000 in
theorem mf_X1_forget : xMf yX1_forget cX1_forget 1 none 0 := ⟨lw_c4 14 rfl rfl, cl_X1.1, cl_X1.2.1, cl_X1.2.2, by decide +kernel⟩
set_option maxRecDepth 20000 in
theorem mv_X1_forget : xMv yX1_forget := ⟨lw_c4 12 rfl rfl, lw_c4 13 rfl rfl⟩
set_option maxRecDepth 20000 in
theorem mf_X1_layOut : xMf yX1_layOut cX1_layOut 2 none 0 := ⟨lw_c4 116 rfl rfl, cl_X1.1, cl_X1.2.1, cl_X1.2.2, by decide +kernel⟩
set_option maxRecDepth 20000 in
theorem mv_X1_layOut : xMv yX1_layOut := ⟨lw_c4 114 rfl rfl, lw_c4 115 rfl rfl⟩
set_option maxRecDepth 20000 in
theorem mf_X1_layBeside : xMf yX1_layBeside cX1_layBeside 5 (some .int) 1 := ⟨lw_c4 121 rfl rfl, cl_X1.1, cl_X1.2.1, cl_X1.2.2, by decide +kernel⟩
set_option maxRecDepth 20000 in
theorem mv_X1_layBeside : xMv yX1_layBeside := ⟨lw_c4 120 rfl rfl, lw_gp (List.mem_of_getElem? (i := 17) (by decide +kernel)) rfl⟩
set_option maxRecDepth 20000 in
theorem mf_X1_layOver : xMf yX1_layOver cX1_layOver 5 (some .int) 1 := ⟨lw_c4 125 rfl rfl, cl_X1.1, cl_X1.2.1, cl_X1.2.2, by decide +kernel⟩
set_option maxRecDepth 20000 in
theorem mv_X1_layOver : xMv yX1_layOver := ⟨lw_c4 124 rfl rfl, lw_gp (List.mem_of_getElem? (i := 18) (by decide +kernel)) rfl⟩
set_option maxRecDepth 20000 in
theorem mf_X1_layItem : xMf yX1_layItem cX1_layItem 4 (some .int) 1 := ⟨lw_c4 129 rfl rfl, cl_X1.1, cl_X1.2.1, cl_X1.2.2, by decide +kernel⟩
set_option maxRecDepth 20000 in
theorem mv_X1_layItem : xMv yX1_layItem := ⟨lw_c4 128 rfl rfl, lw_gp (List.mem_of_getElem? (i := 19) (by decide +kernel)) rfl⟩
set_option maxRecDepth 20000 in
theorem mf_X1_layWithInner : xMf yX1_layWithInner cX1_layWithInner 7 (some .int) 1 := ⟨lw_c4 137 rfl rfl, cl_X1.1, cl_X1.2.1, cl_X1.2.2, by decide +kernel⟩
set_option maxRecDepth 20000 in
theorem mv_X1_layWithInner : xMv yX1_layWithInner := ⟨lw_c4 136 rfl rfl, lw_gp (List.mem_of_getElem? (i := 20) (by decide +kernel)) rfl⟩
set_option maxRecDepth 20000 in
theorem mf_X1_putSign : xMf yX1_putSign cX1_putSign 4 none 3 := ⟨lw_c4 145 rfl rfl, cl_X1.1, cl_X1.2.1, cl_X1.2.2, by decide +kernel⟩
set_option maxRecDepth 20000 in
theorem mv_X1_putSign : xMv yX1_putSign := ⟨lw_c4 144 rfl rfl, lw_gp (List.mem_of_getElem? (i := 21) (by decide +kernel)) rfl⟩
set_option maxRecDepth 20000 in
theorem mf_X1_waitWith : xMf yX1_waitWith cX1_waitWith 3 none 2 := ⟨lw_c4 153 rfl rfl, cl_X1.1, cl_X1.2.1, cl_X1.2.2, by decide +kernel⟩
set_option maxRecDepth 20000 in
theorem mv_X1_waitWith : xMv yX1_waitWith := ⟨lw_c4 152 rfl rfl, lw_gp (List.mem_of_getElem? (i := 22) (by decide +kernel)) rfl⟩
set_option maxRecDepth 20000 in
theorem mf_X1_settle : xMf yX1_settle cX1_settle 10 (some .int) 2 := ⟨lw_c4 157 rfl rfl, cl_X1.1, cl_X1.2.1, cl_X1.2.2, by decide +kernel⟩
set_option maxRecDepth 20000 in
theorem mv_X1_settle : xMv yX1_settle := ⟨lw_c4 156 rfl rfl, lw_gp (List.mem_of_getElem? (i := 23) (by decide +kernel)) rfl⟩
set_option maxRecDepth 20000 in
theorem mf_X1_across : xMf yX1_across cX1_across 2 (some .int) 2 := ⟨lw_c4 160 rfl rfl, cl_X1.1, cl_X1.2.1, cl_X1.2.2, by decide +kernel⟩
set_option maxRecDepth 20000 in
theorem mt_X1_across : Cond.static yX1_across ∈ lw_g := lw_c4 159 rfl rfl
set_option maxRecDepth 20000 in
theorem mf_X1_shift : xMf yX1_shift cX1_shift 6 none 4 := ⟨lw_c4 171 rfl rfl, cl_X1.1, cl_X1.2.1, cl_X1.2.2, by decide +kernel⟩
set_option maxRecDepth 20000 in
theorem mv_X1_shift : xMv yX1_shift := ⟨lw_c4 170 rfl rfl, lw_gp (List.mem_of_getElem? (i := 24) (by decide +kernel)) rfl⟩
set_option maxRecDepth 20000 in
theorem mf_X1_shrunkAs : xMf yX1_shrunkAs cX1_shrunkAs 3 (some .int) 2 := ⟨lw_c4 206 rfl rfl, cl_X1.1, cl_X1.2.1, cl_X1.2.2, by decide +kernel⟩
set_option maxRecDepth 20000 in
theorem mv_X1_shrunkAs : xMv yX1_shrunkAs := ⟨lw_c4 205 rfl rfl, lw_gp (List.mem_of_getElem? (i := 25) (by decide +kernel)) rfl⟩
set_option maxRecDepth 20000 in
theorem mf_X1_boxWidth : xMf yX1_boxWidth cX1_boxWidth 2 (some .int) 1 := ⟨lw_c4 212 rfl rfl, cl_X1.1, cl_X1.2.1, cl_X1.2.2, by decide +kernel⟩
set_option maxRecDepth 20000 in
theorem mv_X1_boxWidth : xMv yX1_boxWidth := ⟨lw_c4 210 rfl rfl, lw_c4 211 rfl rfl⟩
set_option maxRecDepth 20000 in
theorem mf_X1_boxHeight : xMf yX1_boxHeight cX1_boxHeight 2 (some .int) 1 := ⟨lw_c4 221 rfl rfl, cl_X1.1, cl_X1.2.1, cl_X1.2.2, by decide +kernel⟩
set_option maxRecDepth 20000 in
theorem mv_X1_boxHeight : xMv yX1_boxHeight := ⟨lw_c4 219 rfl rfl, lw_c4 220 rfl rfl⟩
set_option maxRecDepth 20000 in
theorem mf_X1_leftEdge : xMf yX1_leftEdge cX1_leftEdge 6 (some .int) 2 := ⟨lw_c4 202 rfl rfl, cl_X1.1, cl_X1.2.1, cl_X1.2.2, by decide +kernel⟩
set_option maxRecDepth 20000 in
theorem mv_X1_leftEdge : xMv yX1_leftEdge := ⟨lw_c4 200 rfl rfl, lw_c4 201 rfl rfl⟩
set_option maxRecDepth 20000 in
theorem mf_X1_upperEdge : xMf yX1_upperEdge cX1_upperEdge 4 (some .int) 1 := ⟨lw_c4 216 rfl rfl, cl_X1.1, cl_X1.2.1, cl_X1.2.2, by decide +kernel⟩
set_option maxRecDepth 20000 in
theorem mv_X1_upperEdge : xMv yX1_upperEdge := ⟨lw_c4 214 rfl rfl, lw_c4 215 rfl rfl⟩
set_option maxRecDepth 20000 in
theorem mf_X1_firstIllegible : xMf yX1_firstIllegible cX1_firstIllegible 2 (some .int) 0 := ⟨lw_c6 139 rfl rfl, cl_X1.1, cl_X1.2.1, cl_X1.2.2, by decide +kernel⟩
set_option maxRecDepth 20000 in
theorem mv_X1_firstIllegible : xMv yX1_firstIllegible := ⟨lw_c6 137 rfl rfl, lw_c6 138 rfl rfl⟩
set_option maxRecDepth 20000 in
theorem cl_X2 : Cond.initialized RX2 ∈ lw_g ∧ RX2 ≠ "java/lang/invoke/MethodHandle" ∧ RX2 ≠ "java/lang/invoke/VarHandle" := ⟨lw_c1 10 rfl rfl, by decide +kernel, by decide +kernel⟩
theorem pn_X2 : plainName RX2 = true := by decide +kernel
set_option maxRecDepth 20000 in
theorem mf_X2_init : xMf yX2_init cX2_init 4 none 3 := ⟨lw_c2 108 rfl rfl, cl_X2.1, cl_X2.2.1, cl_X2.2.2, by decide +kernel⟩
set_option maxRecDepth 20000 in
theorem mf_X2_forget : xMf yX2_forget cX2_forget 1 none 0 := ⟨lw_c4 30 rfl rfl, cl_X2.1, cl_X2.2.1, cl_X2.2.2, by decide +kernel⟩
set_option maxRecDepth 20000 in
theorem mv_X2_forget : xMv yX2_forget := ⟨lw_c4 28 rfl rfl, lw_c4 29 rfl rfl⟩
set_option maxRecDepth 20000 in
theorem mf_X2_isNew : xMf yX2_isNew cX2_isNew 4 (some .boolean) 2 := ⟨lw_c5 23 rfl rfl, cl_X2.1, cl_X2.2.1, cl_X2.2.2, by decide +kernel⟩
set_option maxRecDepth 20000 in
theorem mv_X2_isNew : xMv yX2_isNew := ⟨lw_c5 22 rfl rfl, lw_gp (List.mem_of_getElem? (i := 28) (by decide +kernel)) rfl⟩
set_option maxRecDepth 20000 in
theorem mf_X2_costOf : xMf yX2_costOf cX2_costOf 2 (some .int) 1 := ⟨lw_c5 104 rfl rfl, cl_X2.1, cl_X2.2.1, cl_X2.2.2, by decide +kernel⟩
set_option maxRecDepth 20000 in
theorem mv_X2_costOf : xMv yX2_costOf := ⟨lw_c5 103 rfl rfl, lw_gp (List.mem_of_getElem? (i := 33) (by decide +kernel)) rfl⟩
set_option maxRecDepth 20000 in
theorem mf_X2_spellingsOf : xMf yX2_spellingsOf cX2_spellingsOf 2 (some .int) 1 := ⟨lw_c5 19 rfl rfl, cl_X2.1, cl_X2.2.1, cl_X2.2.2, by decide +kernel⟩
set_option maxRecDepth 20000 in
theorem mv_X2_spellingsOf : xMv yX2_spellingsOf := ⟨lw_c5 17 rfl rfl, lw_c5 18 rfl rfl⟩
set_option maxRecDepth 20000 in
theorem mf_X2_bestPaint : xMf yX2_bestPaint cX2_bestPaint 2 (some .int) 1 := ⟨lw_c5 86 rfl rfl, cl_X2.1, cl_X2.2.1, cl_X2.2.2, by decide +kernel⟩
set_option maxRecDepth 20000 in
theorem mv_X2_bestPaint : xMv yX2_bestPaint := ⟨lw_c5 84 rfl rfl, lw_c5 85 rfl rfl⟩
set_option maxRecDepth 20000 in
theorem mf_X2_bestSignAt : xMf yX2_bestSignAt cX2_bestSignAt 3 (some .int) 2 := ⟨lw_c5 127 rfl rfl, cl_X2.1, cl_X2.2.1, cl_X2.2.2, by decide +kernel⟩
set_option maxRecDepth 20000 in
theorem mv_X2_bestSignAt : xMv yX2_bestSignAt := ⟨lw_c5 125 rfl rfl, lw_c5 126 rfl rfl⟩
set_option maxRecDepth 20000 in
theorem mf_X2_findBest : xMf yX2_findBest cX2_findBest 4 none 1 := ⟨lw_c5 90 rfl rfl, cl_X2.1, cl_X2.2.1, cl_X2.2.2, by decide +kernel⟩
set_option maxRecDepth 20000 in
theorem mv_X2_findBest : xMv yX2_findBest := ⟨lw_c5 89 rfl rfl, lw_gp (List.mem_of_getElem? (i := 30) (by decide +kernel)) rfl⟩
set_option maxRecDepth 20000 in
theorem mf_X2_coverFrom : xMf yX2_coverFrom cX2_coverFrom 3 none 1 := ⟨lw_c5 95 rfl rfl, cl_X2.1, cl_X2.2.1, cl_X2.2.2, by decide +kernel⟩
set_option maxRecDepth 20000 in
theorem mv_X2_coverFrom : xMv yX2_coverFrom := ⟨lw_c5 94 rfl rfl, lw_gp (List.mem_of_getElem? (i := 31) (by decide +kernel)) rfl⟩
set_option maxRecDepth 20000 in
theorem mf_X2_improveBy : xMf yX2_improveBy cX2_improveBy 4 none 3 := ⟨lw_c5 100 rfl rfl, cl_X2.1, cl_X2.2.1, cl_X2.2.2, by decide +kernel⟩
set_option maxRecDepth 20000 in
theorem mv_X2_improveBy : xMv yX2_improveBy := ⟨lw_c5 99 rfl rfl, lw_gp (List.mem_of_getElem? (i := 32) (by decide +kernel)) rfl⟩
set_option maxRecDepth 20000 in
theorem mf_X2_improve : xMf yX2_improve cX2_improve 5 none 3 := ⟨lw_c5 116 rfl rfl, cl_X2.1, cl_X2.2.1, cl_X2.2.2, by decide +kernel⟩
set_option maxRecDepth 20000 in
theorem mv_X2_improve : xMv yX2_improve := ⟨lw_c5 115 rfl rfl, lw_gp (List.mem_of_getElem? (i := 34) (by decide +kernel)) rfl⟩
set_option maxRecDepth 20000 in
theorem mf_X2_slotPaint : xMf yX2_slotPaint cX2_slotPaint 4 (some .int) 2 := ⟨lw_c6 109 rfl rfl, cl_X2.1, cl_X2.2.1, cl_X2.2.2, by decide +kernel⟩
set_option maxRecDepth 20000 in
theorem mv_X2_slotPaint : xMv yX2_slotPaint := ⟨lw_c6 107 rfl rfl, lw_c6 108 rfl rfl⟩
set_option maxRecDepth 20000 in
theorem mf_X2_slotLength : xMf yX2_slotLength cX2_slotLength 3 (some .int) 2 := ⟨lw_c6 114 rfl rfl, cl_X2.1, cl_X2.2.1, cl_X2.2.2, by decide +kernel⟩
set_option maxRecDepth 20000 in
theorem mv_X2_slotLength : xMv yX2_slotLength := ⟨lw_c6 112 rfl rfl, lw_c6 113 rfl rfl⟩
set_option maxRecDepth 20000 in
theorem mf_X2_slotRow : xMf yX2_slotRow cX2_slotRow 3 (some .long) 2 := ⟨lw_c6 118 rfl rfl, cl_X2.1, cl_X2.2.1, cl_X2.2.2, by decide +kernel⟩
set_option maxRecDepth 20000 in
theorem mv_X2_slotRow : xMv yX2_slotRow := ⟨lw_c6 116 rfl rfl, lw_c6 117 rfl rfl⟩
set_option maxRecDepth 20000 in
theorem mf_X2_settle : xMf yX2_settle cX2_settle 5 (some .boolean) 2 := ⟨lw_c6 51 rfl rfl, cl_X2.1, cl_X2.2.1, cl_X2.2.2, by decide +kernel⟩
set_option maxRecDepth 20000 in
theorem mv_X2_settle : xMv yX2_settle := ⟨lw_c6 49 rfl rfl, lw_c6 50 rfl rfl⟩
set_option maxRecDepth 20000 in
theorem mf_X2_emptySlots : xMf yX2_emptySlots cX2_emptySlots 3 none 1 := ⟨lw_c6 56 rfl rfl, cl_X2.1, cl_X2.2.1, cl_X2.2.2, by decide +kernel⟩
set_option maxRecDepth 20000 in
theorem mv_X2_emptySlots : xMv yX2_emptySlots := ⟨lw_c6 55 rfl rfl, lw_gp (List.mem_of_getElem? (i := 46) (by decide +kernel)) rfl⟩
set_option maxRecDepth 20000 in
theorem mf_X2_trySpellings : xMf yX2_trySpellings cX2_trySpellings 2 none 1 := ⟨lw_c6 60 rfl rfl, cl_X2.1, cl_X2.2.1, cl_X2.2.2, by decide +kernel⟩
set_option maxRecDepth 20000 in
theorem mv_X2_trySpellings : xMv yX2_trySpellings := ⟨lw_c6 59 rfl rfl, lw_gp (List.mem_of_getElem? (i := 47) (by decide +kernel)) rfl⟩
set_option maxRecDepth 20000 in
theorem mf_X2_tryIdeas : xMf yX2_tryIdeas cX2_tryIdeas 3 none 0 := ⟨lw_c6 65 rfl rfl, cl_X2.1, cl_X2.2.1, cl_X2.2.2, by decide +kernel⟩
set_option maxRecDepth 20000 in
theorem mv_X2_tryIdeas : xMv yX2_tryIdeas := ⟨lw_c6 64 rfl rfl, lw_gp (List.mem_of_getElem? (i := 48) (by decide +kernel)) rfl⟩
set_option maxRecDepth 20000 in
theorem mf_X2_tryCovers : xMf yX2_tryCovers cX2_tryCovers 7 none 3 := ⟨lw_c6 85 rfl rfl, cl_X2.1, cl_X2.2.1, cl_X2.2.2, by decide +kernel⟩
set_option maxRecDepth 20000 in
theorem mv_X2_tryCovers : xMv yX2_tryCovers := ⟨lw_c6 84 rfl rfl, lw_gp (List.mem_of_getElem? (i := 52) (by decide +kernel)) rfl⟩
set_option maxRecDepth 20000 in
theorem mf_X2_tryBody : xMf yX2_tryBody cX2_tryBody 3 none 1 := ⟨lw_c6 76 rfl rfl, cl_X2.1, cl_X2.2.1, cl_X2.2.2, by decide +kernel⟩
set_option maxRecDepth 20000 in
theorem mv_X2_tryBody : xMv yX2_tryBody := ⟨lw_c6 75 rfl rfl, lw_gp (List.mem_of_getElem? (i := 50) (by decide +kernel)) rfl⟩
set_option maxRecDepth 20000 in
theorem mf_X2_putTrial : xMf yX2_putTrial cX2_putTrial 6 none 2 := ⟨lw_c6 69 rfl rfl, cl_X2.1, cl_X2.2.1, cl_X2.2.2, by decide +kernel⟩
set_option maxRecDepth 20000 in
theorem mv_X2_putTrial : xMv yX2_putTrial := ⟨lw_c6 68 rfl rfl, lw_gp (List.mem_of_getElem? (i := 49) (by decide +kernel)) rfl⟩
set_option maxRecDepth 20000 in
theorem mf_X2_keepTrial : xMf yX2_keepTrial cX2_keepTrial 5 none 1 := ⟨lw_c6 80 rfl rfl, cl_X2.1, cl_X2.2.1, cl_X2.2.2, by decide +kernel⟩
set_option maxRecDepth 20000 in
theorem mv_X2_keepTrial : xMv yX2_keepTrial := ⟨lw_c6 79 rfl rfl, lw_gp (List.mem_of_getElem? (i := 51) (by decide +kernel)) rfl⟩
set_option maxRecDepth 20000 in
theorem cl_X3 : Cond.initialized RX3 ∈ lw_g ∧ RX3 ≠ "java/lang/invoke/MethodHandle" ∧ RX3 ≠ "java/lang/invoke/VarHandle" := ⟨lw_c1 9 rfl rfl, by decide +kernel, by decide +kernel⟩
theorem pn_X3 : plainName RX3 = true := by decide +kernel
set_option maxRecDepth 20000 in
theorem mf_X3_init : xMf yX3_init cX3_init 2 none 1 := ⟨lw_c2 77 rfl rfl, cl_X3.1, cl_X3.2.1, cl_X3.2.2, by decide +kernel⟩
set_option maxRecDepth 20000 in
theorem mf_X3_forget : xMf yX3_forget cX3_forget 1 none 0 := ⟨lw_c4 22 rfl rfl, cl_X3.1, cl_X3.2.1, cl_X3.2.2, by decide +kernel⟩
set_option maxRecDepth 20000 in
theorem mv_X3_forget : xMv yX3_forget := ⟨lw_c4 20 rfl rfl, lw_c4 21 rfl rfl⟩
set_option maxRecDepth 20000 in
theorem mf_X3_arrange : xMf yX3_arrange cX3_arrange 4 (some .int) 2 := ⟨lw_c6 5 rfl rfl, cl_X3.1, cl_X3.2.1, cl_X3.2.2, by decide +kernel⟩
set_option maxRecDepth 20000 in
theorem mv_X3_arrange : xMv yX3_arrange := ⟨lw_c6 3 rfl rfl, lw_c6 4 rfl rfl⟩
set_option maxRecDepth 20000 in
theorem mf_X3_choose : xMf yX3_choose cX3_choose 9 none 3 := ⟨lw_c6 9 rfl rfl, cl_X3.1, cl_X3.2.1, cl_X3.2.2, by decide +kernel⟩
set_option maxRecDepth 20000 in
theorem mv_X3_choose : xMv yX3_choose := ⟨lw_c6 8 rfl rfl, lw_gp (List.mem_of_getElem? (i := 44) (by decide +kernel)) rfl⟩
set_option maxRecDepth 20000 in
theorem mf_X3_keepChoices : xMf yX3_keepChoices cX3_keepChoices 6 none 2 := ⟨lw_c6 26 rfl rfl, cl_X3.1, cl_X3.2.1, cl_X3.2.2, by decide +kernel⟩
set_option maxRecDepth 20000 in
theorem mv_X3_keepChoices : xMv yX3_keepChoices := ⟨lw_c6 25 rfl rfl, lw_gp (List.mem_of_getElem? (i := 45) (by decide +kernel)) rfl⟩
set_option maxRecDepth 20000 in
theorem mf_X3_edgeIn : xMf yX3_edgeIn cX3_edgeIn 14 (some .int) 3 := ⟨lw_c6 15 rfl rfl, cl_X3.1, cl_X3.2.1, cl_X3.2.2, by decide +kernel⟩
set_option maxRecDepth 20000 in
theorem mv_X3_edgeIn : xMv yX3_edgeIn := ⟨lw_c6 13 rfl rfl, lw_c6 14 rfl rfl⟩
set_option maxRecDepth 20000 in
theorem cl_X4 : Cond.initialized RX4 ∈ lw_g ∧ RX4 ≠ "java/lang/invoke/MethodHandle" ∧ RX4 ≠ "java/lang/invoke/VarHandle" := ⟨lw_c1 12 rfl rfl, by decide +kernel, by decide +kernel⟩
theorem pn_X4 : plainName RX4 = true := by decide +kernel
set_option maxRecDepth 20000 in
theorem mf_X4_init : xMf yX4_init cX4_init 2 none 1 := ⟨lw_c2 211 rfl rfl, cl_X4.1, cl_X4.2.1, cl_X4.2.2, by decide +kernel⟩
set_option maxRecDepth 20000 in
theorem mf_X4_forgetFilled : xMf yX4_forgetFilled cX4_forgetFilled 1 none 0 := ⟨lw_c4 37 rfl rfl, cl_X4.1, cl_X4.2.1, cl_X4.2.2, by decide +kernel⟩
set_option maxRecDepth 20000 in
theorem mv_X4_forgetFilled : xMv yX4_forgetFilled := ⟨lw_c4 35 rfl rfl, lw_c4 36 rfl rfl⟩
set_option maxRecDepth 20000 in
theorem mf_X4_put : xMf yX4_put cX4_put 2 (some .boolean) 1 := ⟨lw_c6 42 rfl rfl, cl_X4.1, cl_X4.2.1, cl_X4.2.2, by decide +kernel⟩
set_option maxRecDepth 20000 in
theorem mv_X4_put : xMv yX4_put := ⟨lw_c6 40 rfl rfl, lw_c6 41 rfl rfl⟩
set_option maxRecDepth 20000 in
theorem mf_X4_plan : xMf yX4_plan cX4_plan 3 none 0 := ⟨lw_c6 96 rfl rfl, cl_X4.1, cl_X4.2.1, cl_X4.2.2, by decide +kernel⟩
set_option maxRecDepth 20000 in
theorem mv_X4_plan : xMv yX4_plan := ⟨lw_c6 95 rfl rfl, lw_gp (List.mem_of_getElem? (i := 53) (by decide +kernel)) rfl⟩
set_option maxRecDepth 20000 in
theorem mf_X4_leastFrom : xMf yX4_leastFrom cX4_leastFrom 5 (some .int) 2 := ⟨lw_c6 101 rfl rfl, cl_X4.1, cl_X4.2.1, cl_X4.2.2, by decide +kernel⟩
set_option maxRecDepth 20000 in
theorem mv_X4_leastFrom : xMv yX4_leastFrom := ⟨lw_c6 100 rfl rfl, lw_gp (List.mem_of_getElem? (i := 54) (by decide +kernel)) rfl⟩
set_option maxRecDepth 20000 in
theorem mf_X4_paintWith : xMf yX4_paintWith cX4_paintWith 6 (some .int) 3 := ⟨lw_c6 105 rfl rfl, cl_X4.1, cl_X4.2.1, cl_X4.2.2, by decide +kernel⟩
set_option maxRecDepth 20000 in
theorem mv_X4_paintWith : xMv yX4_paintWith := ⟨lw_c6 104 rfl rfl, lw_gp (List.mem_of_getElem? (i := 55) (by decide +kernel)) rfl⟩
set_option maxRecDepth 20000 in
theorem mf_X4_countFills : xMf yX4_countFills cX4_countFills 3 (some .int) 0 := ⟨lw_c6 131 rfl rfl, cl_X4.1, cl_X4.2.1, cl_X4.2.2, by decide +kernel⟩
set_option maxRecDepth 20000 in
theorem mv_X4_countFills : xMv yX4_countFills := ⟨lw_c6 129 rfl rfl, lw_c6 130 rfl rfl⟩
set_option maxRecDepth 20000 in
theorem mf_X4_fillWith : xMf yX4_fillWith cX4_fillWith 5 (some .int) 1 := ⟨lw_c6 92 rfl rfl, cl_X4.1, cl_X4.2.1, cl_X4.2.2, by decide +kernel⟩
set_option maxRecDepth 20000 in
theorem mv_X4_fillWith : xMv yX4_fillWith := ⟨lw_c6 90 rfl rfl, lw_c6 91 rfl rfl⟩
set_option maxRecDepth 20000 in
theorem cl_X5 : Cond.initialized RX5 ∈ lw_g ∧ RX5 ≠ "java/lang/invoke/MethodHandle" ∧ RX5 ≠ "java/lang/invoke/VarHandle" := ⟨lw_c1 11 rfl rfl, by decide +kernel, by decide +kernel⟩
theorem pn_X5 : plainName RX5 = true := by decide +kernel
set_option maxRecDepth 20000 in
theorem mf_X5_init : xMf yX5_init cX5_init 4 none 3 := ⟨lw_c2 157 rfl rfl, cl_X5.1, cl_X5.2.1, cl_X5.2.2, by decide +kernel⟩
set_option maxRecDepth 20000 in
theorem mf_X5_forget : xMf yX5_forget cX5_forget 1 none 0 := ⟨lw_c4 18 rfl rfl, cl_X5.1, cl_X5.2.1, cl_X5.2.2, by decide +kernel⟩
set_option maxRecDepth 20000 in
theorem mv_X5_forget : xMv yX5_forget := ⟨lw_c4 16 rfl rfl, lw_c4 17 rfl rfl⟩
set_option maxRecDepth 20000 in
theorem mf_X5_take : xMf yX5_take cX5_take 4 (some .int) 1 := ⟨lw_c5 139 rfl rfl, cl_X5.1, cl_X5.2.1, cl_X5.2.2, by decide +kernel⟩
set_option maxRecDepth 20000 in
theorem mv_X5_take : xMv yX5_take := ⟨lw_c5 137 rfl rfl, lw_c5 138 rfl rfl⟩
set_option maxRecDepth 20000 in
theorem mf_X5_keepDraft : xMf yX5_keepDraft cX5_keepDraft 2 (some .int) 1 := ⟨lw_c5 144 rfl rfl, cl_X5.1, cl_X5.2.1, cl_X5.2.2, by decide +kernel⟩
set_option maxRecDepth 20000 in
theorem mv_X5_keepDraft : xMv yX5_keepDraft := ⟨lw_c5 143 rfl rfl, lw_gp (List.mem_of_getElem? (i := 35) (by decide +kernel)) rfl⟩
set_option maxRecDepth 20000 in
theorem mf_X5_isSpellingOf : xMf yX5_isSpellingOf cX5_isSpellingOf 2 (some .boolean) 1 := ⟨lw_c5 237 rfl rfl, cl_X5.1, cl_X5.2.1, cl_X5.2.2, by decide +kernel⟩
set_option maxRecDepth 20000 in
theorem mv_X5_isSpellingOf : xMv yX5_isSpellingOf := ⟨lw_c5 235 rfl rfl, lw_c5 236 rfl rfl⟩
set_option maxRecDepth 20000 in
theorem mf_X5_countWays : xMf yX5_countWays cX5_countWays 6 (some .int) 1 := ⟨lw_c5 158 rfl rfl, cl_X5.1, cl_X5.2.1, cl_X5.2.2, by decide +kernel⟩
set_option maxRecDepth 20000 in
theorem mv_X5_countWays : xMv yX5_countWays := ⟨lw_c5 156 rfl rfl, lw_c5 157 rfl rfl⟩
set_option maxRecDepth 20000 in
theorem mf_X5_waysBehind : xMf yX5_waysBehind cX5_waysBehind 6 (some .long) 2 := ⟨lw_c5 175 rfl rfl, cl_X5.1, cl_X5.2.1, cl_X5.2.2, by decide +kernel⟩
set_option maxRecDepth 20000 in
theorem mv_X5_waysBehind : xMv yX5_waysBehind := ⟨lw_c5 174 rfl rfl, lw_gp (List.mem_of_getElem? (i := 38) (by decide +kernel)) rfl⟩
set_option maxRecDepth 20000 in
theorem mf_X5_findFirstWay : xMf yX5_findFirstWay cX5_findFirstWay 1 (some .int) 0 := ⟨lw_c5 204 rfl rfl, cl_X5.1, cl_X5.2.1, cl_X5.2.2, by decide +kernel⟩
set_option maxRecDepth 20000 in
theorem mv_X5_findFirstWay : xMv yX5_findFirstWay := ⟨lw_c5 202 rfl rfl, lw_c5 203 rfl rfl⟩
set_option maxRecDepth 20000 in
theorem mf_X5_findEnds : xMf yX5_findEnds cX5_findEnds 3 none 0 := ⟨lw_c5 208 rfl rfl, cl_X5.1, cl_X5.2.1, cl_X5.2.2, by decide +kernel⟩
set_option maxRecDepth 20000 in
theorem mv_X5_findEnds : xMv yX5_findEnds := ⟨lw_c5 207 rfl rfl, lw_gp (List.mem_of_getElem? (i := 39) (by decide +kernel)) rfl⟩
set_option maxRecDepth 20000 in
theorem mf_X5_findFewest : xMf yX5_findFewest cX5_findFewest 4 none 0 := ⟨lw_c5 212 rfl rfl, cl_X5.1, cl_X5.2.1, cl_X5.2.2, by decide +kernel⟩
set_option maxRecDepth 20000 in
theorem mv_X5_findFewest : xMv yX5_findFewest := ⟨lw_c5 211 rfl rfl, lw_gp (List.mem_of_getElem? (i := 40) (by decide +kernel)) rfl⟩
set_option maxRecDepth 20000 in
theorem mf_X5_chooseTerms : xMf yX5_chooseTerms cX5_chooseTerms 6 none 0 := ⟨lw_c5 217 rfl rfl, cl_X5.1, cl_X5.2.1, cl_X5.2.2, by decide +kernel⟩
set_option maxRecDepth 20000 in
theorem mv_X5_chooseTerms : xMv yX5_chooseTerms := ⟨lw_c5 216 rfl rfl, lw_gp (List.mem_of_getElem? (i := 41) (by decide +kernel)) rfl⟩
set_option maxRecDepth 20000 in
theorem mf_X5_endsFromAny : xMf yX5_endsFromAny cX5_endsFromAny 5 (some .int) 2 := ⟨lw_c5 221 rfl rfl, cl_X5.1, cl_X5.2.1, cl_X5.2.2, by decide +kernel⟩
set_option maxRecDepth 20000 in
theorem mv_X5_endsFromAny : xMv yX5_endsFromAny := ⟨lw_c5 220 rfl rfl, lw_gp (List.mem_of_getElem? (i := 42) (by decide +kernel)) rfl⟩
set_option maxRecDepth 20000 in
theorem mf_X5_chooseLengths : xMf yX5_chooseLengths cX5_chooseLengths 5 none 0 := ⟨lw_c5 225 rfl rfl, cl_X5.1, cl_X5.2.1, cl_X5.2.2, by decide +kernel⟩
set_option maxRecDepth 20000 in
theorem mv_X5_chooseLengths : xMv yX5_chooseLengths := ⟨lw_c5 224 rfl rfl, lw_gp (List.mem_of_getElem? (i := 43) (by decide +kernel)) rfl⟩
set_option maxRecDepth 20000 in
theorem cl_X6 : Cond.initialized RX6 ∈ lw_g ∧ RX6 ≠ "java/lang/invoke/MethodHandle" ∧ RX6 ≠ "java/lang/invoke/VarHandle" := ⟨lw_c1 3 rfl rfl, by decide +kernel, by decide +kernel⟩
theorem pn_X6 : plainName RX6 = true := by decide +kernel
set_option maxRecDepth 20000 in
theorem mf_X6_init : xMf yX6_init cX6_init 1 none 0 := ⟨lw_c1 101 rfl rfl, cl_X6.1, cl_X6.2.1, cl_X6.2.2, by decide +kernel⟩
set_option maxRecDepth 20000 in
theorem mf_X6_become : xMf yX6_become cX6_become 2 none 1 := ⟨lw_c4 10 rfl rfl, cl_X6.1, cl_X6.2.1, cl_X6.2.2, by decide +kernel⟩
set_option maxRecDepth 20000 in
theorem mv_X6_become : xMv yX6_become := ⟨lw_c4 8 rfl rfl, lw_c4 9 rfl rfl⟩
set_option maxRecDepth 20000 in
theorem mf_X6_has : xMf yX6_has cX6_has 2 (some .boolean) 1 := ⟨lw_c4 53 rfl rfl, cl_X6.1, cl_X6.2.1, cl_X6.2.2, by decide +kernel⟩
set_option maxRecDepth 20000 in
theorem mv_X6_has : xMv yX6_has := ⟨lw_c4 51 rfl rfl, lw_c4 52 rfl rfl⟩
set_option maxRecDepth 20000 in
theorem mf_X6_find : xMf yX6_find cX6_find 4 (some .int) 1 := ⟨lw_c3 197 rfl rfl, cl_X6.1, cl_X6.2.1, cl_X6.2.2, by decide +kernel⟩
set_option maxRecDepth 20000 in
theorem mv_X6_find : xMv yX6_find := ⟨lw_c3 195 rfl rfl, lw_c3 196 rfl rfl⟩
set_option maxRecDepth 20000 in
theorem mf_X6_paintOf : xMf yX6_paintOf cX6_paintOf 2 (some .int) 1 := ⟨lw_c5 108 rfl rfl, cl_X6.1, cl_X6.2.1, cl_X6.2.2, by decide +kernel⟩
set_option maxRecDepth 20000 in
theorem mv_X6_paintOf : xMv yX6_paintOf := ⟨lw_c5 106 rfl rfl, lw_c5 107 rfl rfl⟩
set_option maxRecDepth 20000 in
theorem mf_X6_putSounds : xMf yX6_putSounds cX6_putSounds 4 none 3 := ⟨lw_c3 217 rfl rfl, cl_X6.1, cl_X6.2.1, cl_X6.2.2, by decide +kernel⟩
set_option maxRecDepth 20000 in
theorem mv_X6_putSounds : xMv yX6_putSounds := ⟨lw_c3 215 rfl rfl, lw_c3 216 rfl rfl⟩
set_option maxRecDepth 20000 in
theorem mf_X6_shrunk : xMf yX6_shrunk cX6_shrunk 5 (some .int) 2 := ⟨lw_c4 189 rfl rfl, cl_X6.1, cl_X6.2.1, cl_X6.2.2, by decide +kernel⟩
set_option maxRecDepth 20000 in
theorem mv_X6_shrunk : xMv yX6_shrunk := ⟨lw_c4 187 rfl rfl, lw_c4 188 rfl rfl⟩
set_option maxRecDepth 20000 in
theorem mf_X6_percentOf : xMf yX6_percentOf cX6_percentOf 2 (some .int) 1 := ⟨lw_c4 185 rfl rfl, cl_X6.1, cl_X6.2.1, cl_X6.2.2, by decide +kernel⟩
set_option maxRecDepth 20000 in
theorem mv_X6_percentOf : xMv yX6_percentOf := ⟨lw_c4 183 rfl rfl, lw_c4 184 rfl rfl⟩
set_option maxRecDepth 20000 in
theorem mf_X6_isLegible : xMf yX6_isLegible cX6_isLegible 2 (some .boolean) 1 := ⟨lw_c4 193 rfl rfl, cl_X6.1, cl_X6.2.1, cl_X6.2.2, by decide +kernel⟩
set_option maxRecDepth 20000 in
theorem mv_X6_isLegible : xMv yX6_isLegible := ⟨lw_c4 191 rfl rfl, lw_c4 192 rfl rfl⟩
set_option maxRecDepth 20000 in
theorem mf_X6_take : xMf yX6_take cX6_take 4 (some .int) 1 := ⟨lw_c3 106 rfl rfl, cl_X6.1, cl_X6.2.1, cl_X6.2.2, by decide +kernel⟩
set_option maxRecDepth 20000 in
theorem mv_X6_take : xMv yX6_take := ⟨lw_c3 104 rfl rfl, lw_c3 105 rfl rfl⟩
set_option maxRecDepth 20000 in
theorem mf_X6_takeRule : xMf yX6_takeRule cX6_takeRule 3 (some .boolean) 1 := ⟨lw_c3 231 rfl rfl, cl_X6.1, cl_X6.2.1, cl_X6.2.2, by decide +kernel⟩
set_option maxRecDepth 20000 in
theorem mv_X6_takeRule : xMv yX6_takeRule := ⟨lw_c3 230 rfl rfl, lw_gp (List.mem_of_getElem? (i := 7) (by decide +kernel)) rfl⟩
set_option maxRecDepth 20000 in
theorem mf_X6_ruleNamed : xMf yX6_ruleNamed cX6_ruleNamed 1 (some .int) 1 := ⟨lw_c3 234 rfl rfl, cl_X6.1, cl_X6.2.1, cl_X6.2.2, by decide +kernel⟩
set_option maxRecDepth 20000 in
theorem mt_X6_ruleNamed : Cond.static yX6_ruleNamed ∈ lw_g := lw_c3 233 rfl rfl
set_option maxRecDepth 20000 in
theorem mf_X6_takeSign : xMf yX6_takeSign cX6_takeSign 3 (some .boolean) 1 := ⟨lw_c3 189 rfl rfl, cl_X6.1, cl_X6.2.1, cl_X6.2.2, by decide +kernel⟩
set_option maxRecDepth 20000 in
theorem mv_X6_takeSign : xMv yX6_takeSign := ⟨lw_c3 188 rfl rfl, lw_gp (List.mem_of_getElem? (i := 3) (by decide +kernel)) rfl⟩
set_option maxRecDepth 20000 in
theorem mf_X6_takeNumber : xMf yX6_takeNumber cX6_takeNumber 3 (some .boolean) 3 := ⟨lw_c3 200 rfl rfl, cl_X6.1, cl_X6.2.1, cl_X6.2.2, by decide +kernel⟩
set_option maxRecDepth 20000 in
theorem mt_X6_takeNumber : Cond.static yX6_takeNumber ∈ lw_g := lw_c3 199 rfl rfl
set_option maxRecDepth 20000 in
theorem mf_X6_takeValue : xMf yX6_takeValue cX6_takeValue 3 (some .boolean) 2 := ⟨lw_c3 204 rfl rfl, cl_X6.1, cl_X6.2.1, cl_X6.2.2, by decide +kernel⟩
set_option maxRecDepth 20000 in
theorem mv_X6_takeValue : xMv yX6_takeValue := ⟨lw_c3 203 rfl rfl, lw_gp (List.mem_of_getElem? (i := 4) (by decide +kernel)) rfl⟩
set_option maxRecDepth 20000 in
theorem mf_X6_takeSounds : xMf yX6_takeSounds cX6_takeSounds 3 (some .boolean) 2 := ⟨lw_c3 209 rfl rfl, cl_X6.1, cl_X6.2.1, cl_X6.2.2, by decide +kernel⟩
set_option maxRecDepth 20000 in
theorem mv_X6_takeSounds : xMv yX6_takeSounds := ⟨lw_c3 208 rfl rfl, lw_gp (List.mem_of_getElem? (i := 5) (by decide +kernel)) rfl⟩
set_option maxRecDepth 20000 in
theorem mf_X6_takeMeaning : xMf yX6_takeMeaning cX6_takeMeaning 4 (some .boolean) 3 := ⟨lw_c3 222 rfl rfl, cl_X6.1, cl_X6.2.1, cl_X6.2.2, by decide +kernel⟩
set_option maxRecDepth 20000 in
theorem mv_X6_takeMeaning : xMv yX6_takeMeaning := ⟨lw_c3 221 rfl rfl, lw_gp (List.mem_of_getElem? (i := 6) (by decide +kernel)) rfl⟩
set_option maxRecDepth 20000 in
theorem cl_X7 : Cond.initialized RX7 ∈ lw_g ∧ RX7 ≠ "java/lang/invoke/MethodHandle" ∧ RX7 ≠ "java/lang/invoke/VarHandle" := ⟨lw_c1 8 rfl rfl, by decide +kernel, by decide +kernel⟩
theorem pn_X7 : plainName RX7 = true := by decide +kernel
set_option maxRecDepth 20000 in
theorem mf_X7_init : xMf yX7_init cX7_init 3 none 2 := ⟨lw_c2 45 rfl rfl, cl_X7.1, cl_X7.2.1, cl_X7.2.2, by decide +kernel⟩
set_option maxRecDepth 20000 in
theorem mf_X7_look : xMf yX7_look cX7_look 3 none 2 := ⟨lw_c5 27 rfl rfl, cl_X7.1, cl_X7.2.1, cl_X7.2.2, by decide +kernel⟩
set_option maxRecDepth 20000 in
theorem mv_X7_look : xMv yX7_look := ⟨lw_c5 25 rfl rfl, lw_c5 26 rfl rfl⟩
set_option maxRecDepth 20000 in
theorem mf_X7_hasKind : xMf yX7_hasKind cX7_hasKind 1 (some .boolean) 0 := ⟨lw_c5 77 rfl rfl, cl_X7.1, cl_X7.2.1, cl_X7.2.2, by decide +kernel⟩
set_option maxRecDepth 20000 in
theorem mv_X7_hasKind : xMv yX7_hasKind := ⟨lw_c5 75 rfl rfl, lw_c5 76 rfl rfl⟩
set_option maxRecDepth 20000 in
theorem mf_X7_isOfKind : xMf yX7_isOfKind cX7_isOfKind 2 (some .boolean) 1 := ⟨lw_c5 47 rfl rfl, cl_X7.1, cl_X7.2.1, cl_X7.2.2, by decide +kernel⟩
set_option maxRecDepth 20000 in
theorem mv_X7_isOfKind : xMv yX7_isOfKind := ⟨lw_c5 45 rfl rfl, lw_c5 46 rfl rfl⟩
set_option maxRecDepth 20000 in
theorem mf_X7_isIdea : xMf yX7_isIdea cX7_isIdea 2 (some .boolean) 1 := ⟨lw_c5 35 rfl rfl, cl_X7.1, cl_X7.2.1, cl_X7.2.2, by decide +kernel⟩
set_option maxRecDepth 20000 in
theorem mv_X7_isIdea : xMv yX7_isIdea := ⟨lw_c5 33 rfl rfl, lw_c5 34 rfl rfl⟩
set_option maxRecDepth 20000 in
theorem mf_X7_isTail : xMf yX7_isTail cX7_isTail 2 (some .boolean) 1 := ⟨lw_c5 39 rfl rfl, cl_X7.1, cl_X7.2.1, cl_X7.2.2, by decide +kernel⟩
set_option maxRecDepth 20000 in
theorem mv_X7_isTail : xMv yX7_isTail := ⟨lw_c5 37 rfl rfl, lw_c5 38 rfl rfl⟩
set_option maxRecDepth 20000 in
theorem mf_X7_covers : xMf yX7_covers cX7_covers 4 (some .boolean) 2 := ⟨lw_c5 43 rfl rfl, cl_X7.1, cl_X7.2.1, cl_X7.2.2, by decide +kernel⟩
set_option maxRecDepth 20000 in
theorem mv_X7_covers : xMv yX7_covers := ⟨lw_c5 41 rfl rfl, lw_c5 42 rfl rfl⟩
set_option maxRecDepth 20000 in
theorem mf_X7_echoes : xMf yX7_echoes cX7_echoes 3 (some .boolean) 2 := ⟨lw_c5 68 rfl rfl, cl_X7.1, cl_X7.2.1, cl_X7.2.2, by decide +kernel⟩
set_option maxRecDepth 20000 in
theorem mv_X7_echoes : xMv yX7_echoes := ⟨lw_c5 66 rfl rfl, lw_c5 67 rfl rfl⟩
set_option maxRecDepth 20000 in
theorem mf_X7_step : xMf yX7_step cX7_step 6 (some .int) 3 := ⟨lw_c5 64 rfl rfl, cl_X7.1, cl_X7.2.1, cl_X7.2.2, by decide +kernel⟩
set_option maxRecDepth 20000 in
theorem mv_X7_step : xMv yX7_step := ⟨lw_c5 62 rfl rfl, lw_c5 63 rfl rfl⟩
set_option maxRecDepth 20000 in
theorem mf_X7_isCover : xMf yX7_isCover cX7_isCover 4 (some .boolean) 2 := ⟨lw_c5 60 rfl rfl, cl_X7.1, cl_X7.2.1, cl_X7.2.2, by decide +kernel⟩
set_option maxRecDepth 20000 in
theorem mv_X7_isCover : xMv yX7_isCover := ⟨lw_c5 58 rfl rfl, lw_c5 59 rfl rfl⟩
set_option maxRecDepth 20000 in
theorem mf_X7_endsFrom : xMf yX7_endsFrom cX7_endsFrom 5 (some .int) 3 := ⟨lw_c5 163 rfl rfl, cl_X7.1, cl_X7.2.1, cl_X7.2.2, by decide +kernel⟩
set_option maxRecDepth 20000 in
theorem mv_X7_endsFrom : xMv yX7_endsFrom := ⟨lw_c5 161 rfl rfl, lw_c5 162 rfl rfl⟩
set_option maxRecDepth 20000 in
theorem mf_X7_endsFromAny : xMf yX7_endsFromAny cX7_endsFromAny 6 (some .int) 3 := ⟨lw_c6 149 rfl rfl, cl_X7.1, cl_X7.2.1, cl_X7.2.2, by decide +kernel⟩
set_option maxRecDepth 20000 in
theorem mv_X7_endsFromAny : xMv yX7_endsFromAny := ⟨lw_c6 147 rfl rfl, lw_c6 148 rfl rfl⟩
set_option maxRecDepth 20000 in
theorem mf_X7_coverEnds : xMf yX7_coverEnds cX7_coverEnds 8 (some .int) 3 := ⟨lw_c5 167 rfl rfl, cl_X7.1, cl_X7.2.1, cl_X7.2.2, by decide +kernel⟩
set_option maxRecDepth 20000 in
theorem mv_X7_coverEnds : xMv yX7_coverEnds := ⟨lw_c5 166 rfl rfl, lw_gp (List.mem_of_getElem? (i := 36) (by decide +kernel)) rfl⟩
set_option maxRecDepth 20000 in
theorem mf_X7_endsOfKind : xMf yX7_endsOfKind cX7_endsOfKind 6 (some .int) 3 := ⟨lw_c5 171 rfl rfl, cl_X7.1, cl_X7.2.1, cl_X7.2.2, by decide +kernel⟩
set_option maxRecDepth 20000 in
theorem mv_X7_endsOfKind : xMv yX7_endsOfKind := ⟨lw_c5 170 rfl rfl, lw_gp (List.mem_of_getElem? (i := 37) (by decide +kernel)) rfl⟩
set_option maxRecDepth 20000 in
theorem mf_X7_countAll : xMf yX7_countAll cX7_countAll 5 (some .int) 0 := ⟨lw_c5 31 rfl rfl, cl_X7.1, cl_X7.2.1, cl_X7.2.2, by decide +kernel⟩
set_option maxRecDepth 20000 in
theorem mv_X7_countAll : xMv yX7_countAll := ⟨lw_c5 29 rfl rfl, lw_c5 30 rfl rfl⟩
set_option maxRecDepth 20000 in
theorem mf_X7_forgetCovers : xMf yX7_forgetCovers cX7_forgetCovers 1 none 0 := ⟨lw_c5 51 rfl rfl, cl_X7.1, cl_X7.2.1, cl_X7.2.2, by decide +kernel⟩
set_option maxRecDepth 20000 in
theorem mv_X7_forgetCovers : xMv yX7_forgetCovers := ⟨lw_c5 49 rfl rfl, lw_c5 50 rfl rfl⟩
set_option maxRecDepth 20000 in
theorem mf_X7_coversBehind : xMf yX7_coversBehind cX7_coversBehind 8 (some .int) 3 := ⟨lw_c5 56 rfl rfl, cl_X7.1, cl_X7.2.1, cl_X7.2.2, by decide +kernel⟩
set_option maxRecDepth 20000 in
theorem mv_X7_coversBehind : xMv yX7_coversBehind := ⟨lw_c5 55 rfl rfl, lw_gp (List.mem_of_getElem? (i := 29) (by decide +kernel)) rfl⟩
set_option maxRecDepth 20000 in
theorem cl_X8 : Cond.initialized RX8 ∈ lw_g ∧ RX8 ≠ "java/lang/invoke/MethodHandle" ∧ RX8 ≠ "java/lang/invoke/VarHandle" := ⟨lw_c1 2 rfl rfl, by decide +kernel, by decide +kernel⟩
theorem pn_X8 : plainName RX8 = true := by decide +kernel
set_option maxRecDepth 20000 in
theorem mf_X8_init : xMf yX8_init cX8_init 1 none 0 := ⟨lw_c1 33 rfl rfl, cl_X8.1, cl_X8.2.1, cl_X8.2.2, by decide +kernel⟩
set_option maxRecDepth 20000 in
theorem mf_X8_put : xMf yX8_put cX8_put 3 none 1 := ⟨lw_c3 86 rfl rfl, cl_X8.1, cl_X8.2.1, cl_X8.2.2, by decide +kernel⟩
set_option maxRecDepth 20000 in
theorem mv_X8_put : xMv yX8_put := ⟨lw_c3 84 rfl rfl, lw_c3 85 rfl rfl⟩
set_option maxRecDepth 20000 in
theorem mf_X8_rewind : xMf yX8_rewind cX8_rewind 1 none 0 := ⟨lw_c3 98 rfl rfl, cl_X8.1, cl_X8.2.1, cl_X8.2.2, by decide +kernel⟩
set_option maxRecDepth 20000 in
theorem mv_X8_rewind : xMv yX8_rewind := ⟨lw_c3 96 rfl rfl, lw_c3 97 rfl rfl⟩
set_option maxRecDepth 20000 in
theorem mf_X8_drain : xMf yX8_drain cX8_drain 1 none 0 := ⟨lw_c4 6 rfl rfl, cl_X8.1, cl_X8.2.1, cl_X8.2.2, by decide +kernel⟩
set_option maxRecDepth 20000 in
theorem mv_X8_drain : xMv yX8_drain := ⟨lw_c4 4 rfl rfl, lw_c4 5 rfl rfl⟩
set_option maxRecDepth 20000 in
theorem mf_X8_forgetFault : xMf yX8_forgetFault cX8_forgetFault 1 none 0 := ⟨lw_c3 102 rfl rfl, cl_X8.1, cl_X8.2.1, cl_X8.2.2, by decide +kernel⟩
set_option maxRecDepth 20000 in
theorem mv_X8_forgetFault : xMv yX8_forgetFault := ⟨lw_c3 100 rfl rfl, lw_c3 101 rfl rfl⟩
set_option maxRecDepth 20000 in
theorem mf_X8_refuse : xMf yX8_refuse cX8_refuse 2 (some .boolean) 1 := ⟨lw_c3 193 rfl rfl, cl_X8.1, cl_X8.2.1, cl_X8.2.2, by decide +kernel⟩
set_option maxRecDepth 20000 in
theorem mv_X8_refuse : xMv yX8_refuse := ⟨lw_c3 191 rfl rfl, lw_c3 192 rfl rfl⟩
set_option maxRecDepth 20000 in
theorem mf_X8_next : xMf yX8_next cX8_next 1 none 0 := ⟨lw_c3 110 rfl rfl, cl_X8.1, cl_X8.2.1, cl_X8.2.2, by decide +kernel⟩
set_option maxRecDepth 20000 in
theorem mv_X8_next : xMv yX8_next := ⟨lw_c3 108 rfl rfl, lw_c3 109 rfl rfl⟩
set_option maxRecDepth 20000 in
theorem mf_X8_takeWord : xMf yX8_takeWord cX8_takeWord 2 none 0 := ⟨lw_c3 117 rfl rfl, cl_X8.1, cl_X8.2.1, cl_X8.2.2, by decide +kernel⟩
set_option maxRecDepth 20000 in
theorem mv_X8_takeWord : xMv yX8_takeWord := ⟨lw_c3 116 rfl rfl, lw_gp (List.mem_of_getElem? (i := 0) (by decide +kernel)) rfl⟩
set_option maxRecDepth 20000 in
theorem mf_X8_takeNumber : xMf yX8_takeNumber cX8_takeNumber 2 none 0 := ⟨lw_c3 125 rfl rfl, cl_X8.1, cl_X8.2.1, cl_X8.2.2, by decide +kernel⟩
set_option maxRecDepth 20000 in
theorem mv_X8_takeNumber : xMv yX8_takeNumber := ⟨lw_c3 124 rfl rfl, lw_gp (List.mem_of_getElem? (i := 1) (by decide +kernel)) rfl⟩
set_option maxRecDepth 20000 in
theorem mf_X8_takeMark : xMf yX8_takeMark cX8_takeMark 1 none 0 := ⟨lw_c3 129 rfl rfl, cl_X8.1, cl_X8.2.1, cl_X8.2.2, by decide +kernel⟩
set_option maxRecDepth 20000 in
theorem mv_X8_takeMark : xMv yX8_takeMark := ⟨lw_c3 128 rfl rfl, lw_gp (List.mem_of_getElem? (i := 2) (by decide +kernel)) rfl⟩
set_option maxRecDepth 20000 in
theorem mf_X8_isLetter : xMf yX8_isLetter cX8_isLetter 1 (some .boolean) 1 := ⟨lw_c3 113 rfl rfl, cl_X8.1, cl_X8.2.1, cl_X8.2.2, by decide +kernel⟩
set_option maxRecDepth 20000 in
theorem mt_X8_isLetter : Cond.static yX8_isLetter ∈ lw_g := lw_c3 112 rfl rfl
set_option maxRecDepth 20000 in
theorem mf_X8_isDigit : xMf yX8_isDigit cX8_isDigit 1 (some .boolean) 1 := ⟨lw_c3 121 rfl rfl, cl_X8.1, cl_X8.2.1, cl_X8.2.2, by decide +kernel⟩
set_option maxRecDepth 20000 in
theorem mt_X8_isDigit : Cond.static yX8_isDigit ∈ lw_g := lw_c3 120 rfl rfl
set_option maxRecDepth 20000 in
theorem mf_X8_isMark : xMf yX8_isMark cX8_isMark 1 (some .boolean) 1 := ⟨lw_c3 132 rfl rfl, cl_X8.1, cl_X8.2.1, cl_X8.2.2, by decide +kernel⟩
set_option maxRecDepth 20000 in
theorem mt_X8_isMark : Cond.static yX8_isMark ∈ lw_g := lw_c3 131 rfl rfl
set_option maxRecDepth 20000 in
theorem mf_X8_isMarked : xMf yX8_isMarked cX8_isMarked 2 (some .boolean) 1 := ⟨lw_c3 227 rfl rfl, cl_X8.1, cl_X8.2.1, cl_X8.2.2, by decide +kernel⟩
set_option maxRecDepth 20000 in
theorem mv_X8_isMarked : xMv yX8_isMarked := ⟨lw_c3 225 rfl rfl, lw_c3 226 rfl rfl⟩
set_option maxRecDepth 20000 in
theorem mf_X8_isRow : xMf yX8_isRow cX8_isRow 2 (some .boolean) 1 := ⟨lw_c3 213 rfl rfl, cl_X8.1, cl_X8.2.1, cl_X8.2.2, by decide +kernel⟩
set_option maxRecDepth 20000 in
theorem mv_X8_isRow : xMv yX8_isRow := ⟨lw_c3 211 rfl rfl, lw_c3 212 rfl rfl⟩
set_option maxRecDepth 20000 in
theorem mf_X8_isWord : xMf yX8_isWord cX8_isWord 3 (some .boolean) 1 := ⟨lw_c3 137 rfl rfl, cl_X8.1, cl_X8.2.1, cl_X8.2.2, by decide +kernel⟩
set_option maxRecDepth 20000 in
theorem mv_X8_isWord : xMv yX8_isWord := ⟨lw_c3 135 rfl rfl, lw_c3 136 rfl rfl⟩
set_option maxRecDepth 20000 in
theorem cl_X9 : Cond.initialized RX9 ∈ lw_g ∧ RX9 ≠ "java/lang/invoke/MethodHandle" ∧ RX9 ≠ "java/lang/invoke/VarHandle" := ⟨lw_c1 7 rfl rfl, by decide +kernel, by decide +kernel⟩
theorem pn_X9 : plainName RX9 = true := by decide +kernel
set_option maxRecDepth 20000 in
theorem mf_X9_init : xMf yX9_init cX9_init 1 none 0 := ⟨lw_c2 14 rfl rfl, cl_X9.1, cl_X9.2.1, cl_X9.2.2, by decide +kernel⟩
set_option maxRecDepth 20000 in
theorem mf_X9_has : xMf yX9_has cX9_has 2 (some .boolean) 1 := ⟨lw_c5 11 rfl rfl, cl_X9.1, cl_X9.2.1, cl_X9.2.2, by decide +kernel⟩
set_option maxRecDepth 20000 in
theorem mv_X9_has : xMv yX9_has := ⟨lw_c5 9 rfl rfl, lw_c5 10 rfl rfl⟩
set_option maxRecDepth 20000 in
theorem mf_X9_take : xMf yX9_take cX9_take 8 (some .int) 1 := ⟨lw_c4 233 rfl rfl, cl_X9.1, cl_X9.2.1, cl_X9.2.2, by decide +kernel⟩
set_option maxRecDepth 20000 in
theorem mv_X9_take : xMv yX9_take := ⟨lw_c4 231 rfl rfl, lw_c4 232 rfl rfl⟩
set_option maxRecDepth 20000 in
theorem mf_X9_isNamed : xMf yX9_isNamed cX9_isNamed 4 (some .boolean) 1 := ⟨lw_c4 239 rfl rfl, cl_X9.1, cl_X9.2.1, cl_X9.2.2, by decide +kernel⟩
set_option maxRecDepth 20000 in
theorem mv_X9_isNamed : xMv yX9_isNamed := ⟨lw_c4 238 rfl rfl, lw_gp (List.mem_of_getElem? (i := 26) (by decide +kernel)) rfl⟩
set_option maxRecDepth 20000 in
theorem mf_X9_put : xMf yX9_put cX9_put 7 (some .int) 4 := ⟨lw_c5 3 rfl rfl, cl_X9.1, cl_X9.2.1, cl_X9.2.2, by decide +kernel⟩
set_option maxRecDepth 20000 in
theorem mv_X9_put : xMv yX9_put := ⟨lw_c5 2 rfl rfl, lw_gp (List.mem_of_getElem? (i := 27) (by decide +kernel)) rfl⟩
set_option maxRecDepth 20000 in
theorem cl_X10 : Cond.initialized RX10 ∈ lw_g ∧ RX10 ≠ "java/lang/invoke/MethodHandle" ∧ RX10 ≠ "java/lang/invoke/VarHandle" := ⟨lw_c1 13 rfl rfl, by decide +kernel, by decide +kernel⟩
theorem pn_X10 : plainName RX10 = true := by decide +kernel
set_option maxRecDepth 20000 in
theorem mf_X10_init : xMf yX10_init cX10_init 1 none 0 := ⟨lw_c3 11 rfl rfl, cl_X10.1, cl_X10.2.1, cl_X10.2.2, by decide +kernel⟩
set_option maxRecDepth 20000 in
theorem mf_X10_forget : xMf yX10_forget cX10_forget 1 none 0 := ⟨lw_c4 26 rfl rfl, cl_X10.1, cl_X10.2.1, cl_X10.2.2, by decide +kernel⟩
set_option maxRecDepth 20000 in
theorem mv_X10_forget : xMv yX10_forget := ⟨lw_c4 24 rfl rfl, lw_c4 25 rfl rfl⟩
set_option maxRecDepth 20000 in
theorem mf_X10_put : xMf yX10_put cX10_put 4 none 3 := ⟨lw_c6 159 rfl rfl, cl_X10.1, cl_X10.2.1, cl_X10.2.2, by decide +kernel⟩
set_option maxRecDepth 20000 in
theorem mv_X10_put : xMv yX10_put := ⟨lw_c6 157 rfl rfl, lw_c6 158 rfl rfl⟩
set_option maxRecDepth 20000 in
theorem mf_X10_putSounds : xMf yX10_putSounds cX10_putSounds 3 none 2 := ⟨lw_c6 163 rfl rfl, cl_X10.1, cl_X10.2.1, cl_X10.2.2, by decide +kernel⟩
set_option maxRecDepth 20000 in
theorem mv_X10_putSounds : xMv yX10_putSounds := ⟨lw_c6 161 rfl rfl, lw_c6 162 rfl rfl⟩
set_option maxRecDepth 20000 in
theorem mf_X10_latestFor : xMf yX10_latestFor cX10_latestFor 7 (some .int) 3 := ⟨lw_c5 195 rfl rfl, cl_X10.1, cl_X10.2.1, cl_X10.2.2, by decide +kernel⟩
set_option maxRecDepth 20000 in
theorem mv_X10_latestFor : xMv yX10_latestFor := ⟨lw_c5 193 rfl rfl, lw_c5 194 rfl rfl⟩
set_option maxRecDepth 20000 in
theorem mf_X10_applyTo : xMf yX10_applyTo cX10_applyTo 6 none 3 := ⟨lw_c5 191 rfl rfl, cl_X10.1, cl_X10.2.1, cl_X10.2.2, by decide +kernel⟩
set_option maxRecDepth 20000 in
theorem mv_X10_applyTo : xMv yX10_applyTo := ⟨lw_c5 189 rfl rfl, lw_c5 190 rfl rfl⟩
set_option maxRecDepth 20000 in
theorem cl_X11 : Cond.initialized RX11 ∈ lw_g ∧ RX11 ≠ "java/lang/invoke/MethodHandle" ∧ RX11 ≠ "java/lang/invoke/VarHandle" := ⟨lw_c1 1 rfl rfl, by decide +kernel, by decide +kernel⟩
theorem pn_X11 : plainName RX11 = true := by decide +kernel
set_option maxRecDepth 20000 in
theorem mf_X11_init : xMf yX11_init cX11_init 1 none 0 := ⟨lw_c1 25 rfl rfl, cl_X11.1, cl_X11.2.1, cl_X11.2.2, by decide +kernel⟩
set_option maxRecDepth 20000 in
theorem mf_X11_feed : xMf yX11_feed cX11_feed 6 (some .int) 5 := ⟨lw_c3 82 rfl rfl, cl_X11.1, cl_X11.2.1, cl_X11.2.2, by decide +kernel⟩
set_option maxRecDepth 20000 in
theorem mv_X11_feed : xMv yX11_feed := ⟨lw_c3 80 rfl rfl, lw_c3 81 rfl rfl⟩
set_option maxRecDepth 20000 in
theorem mf_X11_end : xMf yX11_end cX11_end 2 (some .int) 1 := ⟨lw_c3 90 rfl rfl, cl_X11.1, cl_X11.2.1, cl_X11.2.2, by decide +kernel⟩
set_option maxRecDepth 20000 in
theorem mv_X11_end : xMv yX11_end := ⟨lw_c3 88 rfl rfl, lw_c3 89 rfl rfl⟩
set_option maxRecDepth 20000 in
theorem mf_X11_list : xMf yX11_list cX11_list 2 (some .int) 0 := ⟨lw_c3 94 rfl rfl, cl_X11.1, cl_X11.2.1, cl_X11.2.2, by decide +kernel⟩
set_option maxRecDepth 20000 in
theorem mv_X11_list : xMv yX11_list := ⟨lw_c3 92 rfl rfl, lw_c3 93 rfl rfl⟩
set_option maxRecDepth 20000 in
theorem mf_X11_fault : xMf yX11_fault cX11_fault 2 (some .int) 1 := ⟨lw_c4 41 rfl rfl, cl_X11.1, cl_X11.2.1, cl_X11.2.2, by decide +kernel⟩
set_option maxRecDepth 20000 in
theorem mv_X11_fault : xMv yX11_fault := ⟨lw_c4 39 rfl rfl, lw_c4 40 rfl rfl⟩
set_option maxRecDepth 20000 in
theorem mf_X11_rule : xMf yX11_rule cX11_rule 2 (some .int) 1 := ⟨lw_c4 45 rfl rfl, cl_X11.1, cl_X11.2.1, cl_X11.2.2, by decide +kernel⟩
set_option maxRecDepth 20000 in
theorem mv_X11_rule : xMv yX11_rule := ⟨lw_c4 43 rfl rfl, lw_c4 44 rfl rfl⟩
set_option maxRecDepth 20000 in
theorem mf_X11_sign : xMf yX11_sign cX11_sign 3 (some .int) 2 := ⟨lw_c4 49 rfl rfl, cl_X11.1, cl_X11.2.1, cl_X11.2.2, by decide +kernel⟩
set_option maxRecDepth 20000 in
theorem mv_X11_sign : xMv yX11_sign := ⟨lw_c4 47 rfl rfl, lw_c4 48 rfl rfl⟩
set_option maxRecDepth 20000 in
theorem mf_X11_named : xMf yX11_named cX11_named 5 (some .int) 0 := ⟨lw_c4 63 rfl rfl, cl_X11.1, cl_X11.2.1, cl_X11.2.2, by decide +kernel⟩
set_option maxRecDepth 20000 in
theorem mv_X11_named : xMv yX11_named := ⟨lw_c4 61 rfl rfl, lw_c4 62 rfl rfl⟩
set_option maxRecDepth 20000 in
theorem mf_X11_blocks : xMf yX11_blocks cX11_blocks 2 (some .int) 0 := ⟨lw_c4 69 rfl rfl, cl_X11.1, cl_X11.2.1, cl_X11.2.2, by decide +kernel⟩
set_option maxRecDepth 20000 in
theorem mv_X11_blocks : xMv yX11_blocks := ⟨lw_c4 67 rfl rfl, lw_c4 68 rfl rfl⟩
set_option maxRecDepth 20000 in
theorem mf_X11_block : xMf yX11_block cX11_block 5 (some .int) 2 := ⟨lw_c4 175 rfl rfl, cl_X11.1, cl_X11.2.1, cl_X11.2.2, by decide +kernel⟩
set_option maxRecDepth 20000 in
theorem mv_X11_block : xMv yX11_block := ⟨lw_c4 173 rfl rfl, lw_c4 174 rfl rfl⟩
set_option maxRecDepth 20000 in
theorem mf_X11_box : xMf yX11_box cX11_box 3 (some .int) 2 := ⟨lw_c4 198 rfl rfl, cl_X11.1, cl_X11.2.1, cl_X11.2.2, by decide +kernel⟩
set_option maxRecDepth 20000 in
theorem mv_X11_box : xMv yX11_box := ⟨lw_c4 196 rfl rfl, lw_c4 197 rfl rfl⟩
set_option maxRecDepth 20000 in
theorem mf_X11_face : xMf yX11_face cX11_face 3 (some .int) 1 := ⟨lw_c4 225 rfl rfl, cl_X11.1, cl_X11.2.1, cl_X11.2.2, by decide +kernel⟩
set_option maxRecDepth 20000 in
theorem mv_X11_face : xMv yX11_face := ⟨lw_c4 223 rfl rfl, lw_c4 224 rfl rfl⟩
set_option maxRecDepth 20000 in
theorem mf_X11_term : xMf yX11_term cX11_term 2 (some .int) 0 := ⟨lw_c4 229 rfl rfl, cl_X11.1, cl_X11.2.1, cl_X11.2.2, by decide +kernel⟩
set_option maxRecDepth 20000 in
theorem mv_X11_term : xMv yX11_term := ⟨lw_c4 227 rfl rfl, lw_c4 228 rfl rfl⟩
set_option maxRecDepth 20000 in
theorem mf_X11_about : xMf yX11_about cX11_about 3 (some .int) 2 := ⟨lw_c5 7 rfl rfl, cl_X11.1, cl_X11.2.1, cl_X11.2.2, by decide +kernel⟩
set_option maxRecDepth 20000 in
theorem mv_X11_about : xMv yX11_about := ⟨lw_c5 5 rfl rfl, lw_c5 6 rfl rfl⟩
set_option maxRecDepth 20000 in
theorem mf_X11_spellings : xMf yX11_spellings cX11_spellings 3 (some .int) 1 := ⟨lw_c5 15 rfl rfl, cl_X11.1, cl_X11.2.1, cl_X11.2.2, by decide +kernel⟩
set_option maxRecDepth 20000 in
theorem mv_X11_spellings : xMv yX11_spellings := ⟨lw_c5 13 rfl rfl, lw_c5 14 rfl rfl⟩
set_option maxRecDepth 20000 in
theorem mf_X11_best : xMf yX11_best cX11_best 2 (some .int) 1 := ⟨lw_c5 82 rfl rfl, cl_X11.1, cl_X11.2.1, cl_X11.2.2, by decide +kernel⟩
set_option maxRecDepth 20000 in
theorem mv_X11_best : xMv yX11_best := ⟨lw_c5 80 rfl rfl, lw_c5 81 rfl rfl⟩
set_option maxRecDepth 20000 in
theorem mf_X11_bestSign : xMf yX11_bestSign cX11_bestSign 3 (some .int) 2 := ⟨lw_c5 123 rfl rfl, cl_X11.1, cl_X11.2.1, cl_X11.2.2, by decide +kernel⟩
set_option maxRecDepth 20000 in
theorem mv_X11_bestSign : xMv yX11_bestSign := ⟨lw_c5 121 rfl rfl, lw_c5 122 rfl rfl⟩
set_option maxRecDepth 20000 in
theorem mf_X11_write : xMf yX11_write cX11_write 2 (some .int) 0 := ⟨lw_c5 135 rfl rfl, cl_X11.1, cl_X11.2.1, cl_X11.2.2, by decide +kernel⟩
set_option maxRecDepth 20000 in
theorem mv_X11_write : xMv yX11_write := ⟨lw_c5 133 rfl rfl, lw_c5 134 rfl rfl⟩
set_option maxRecDepth 20000 in
theorem mf_X11_written : xMf yX11_written cX11_written 2 (some .int) 1 := ⟨lw_c5 150 rfl rfl, cl_X11.1, cl_X11.2.1, cl_X11.2.2, by decide +kernel⟩
set_option maxRecDepth 20000 in
theorem mv_X11_written : xMv yX11_written := ⟨lw_c5 148 rfl rfl, lw_c5 149 rfl rfl⟩
set_option maxRecDepth 20000 in
theorem mf_X11_ways : xMf yX11_ways cX11_ways 1 (some .int) 0 := ⟨lw_c5 154 rfl rfl, cl_X11.1, cl_X11.2.1, cl_X11.2.2, by decide +kernel⟩
set_option maxRecDepth 20000 in
theorem mv_X11_ways : xMv yX11_ways := ⟨lw_c5 152 rfl rfl, lw_c5 153 rfl rfl⟩
set_option maxRecDepth 20000 in
theorem mf_X11_waysOn : xMf yX11_waysOn cX11_waysOn 3 (some .int) 2 := ⟨lw_c5 184 rfl rfl, cl_X11.1, cl_X11.2.1, cl_X11.2.2, by decide +kernel⟩
set_option maxRecDepth 20000 in
theorem mv_X11_waysOn : xMv yX11_waysOn := ⟨lw_c5 182 rfl rfl, lw_c5 183 rfl rfl⟩
set_option maxRecDepth 20000 in
theorem mf_X11_read : xMf yX11_read cX11_read 1 (some .int) 0 := ⟨lw_c5 200 rfl rfl, cl_X11.1, cl_X11.2.1, cl_X11.2.2, by decide +kernel⟩
set_option maxRecDepth 20000 in
theorem mv_X11_read : xMv yX11_read := ⟨lw_c5 198 rfl rfl, lw_c5 199 rfl rfl⟩
set_option maxRecDepth 20000 in
theorem mf_X11_readTerm : xMf yX11_readTerm cX11_readTerm 3 (some .int) 2 := ⟨lw_c5 229 rfl rfl, cl_X11.1, cl_X11.2.1, cl_X11.2.2, by decide +kernel⟩
set_option maxRecDepth 20000 in
theorem mv_X11_readTerm : xMv yX11_readTerm := ⟨lw_c5 227 rfl rfl, lw_c5 228 rfl rfl⟩
set_option maxRecDepth 20000 in
theorem mf_X11_spells : xMf yX11_spells cX11_spells 2 (some .int) 1 := ⟨lw_c5 233 rfl rfl, cl_X11.1, cl_X11.2.1, cl_X11.2.2, by decide +kernel⟩
set_option maxRecDepth 20000 in
theorem mv_X11_spells : xMv yX11_spells := ⟨lw_c5 231 rfl rfl, lw_c5 232 rfl rfl⟩
set_option maxRecDepth 20000 in
theorem mf_X11_group : xMf yX11_group cX11_group 1 (some .int) 0 := ⟨lw_c6 1 rfl rfl, cl_X11.1, cl_X11.2.1, cl_X11.2.2, by decide +kernel⟩
set_option maxRecDepth 20000 in
theorem mv_X11_group : xMv yX11_group := ⟨lw_c5 239 rfl rfl, lw_c6 0 rfl rfl⟩
set_option maxRecDepth 20000 in
theorem mf_X11_grouped : xMf yX11_grouped cX11_grouped 3 (some .int) 2 := ⟨lw_c6 30 rfl rfl, cl_X11.1, cl_X11.2.1, cl_X11.2.2, by decide +kernel⟩
set_option maxRecDepth 20000 in
theorem mv_X11_grouped : xMv yX11_grouped := ⟨lw_c6 28 rfl rfl, lw_c6 29 rfl rfl⟩
set_option maxRecDepth 20000 in
theorem mf_X11_clear : xMf yX11_clear cX11_clear 2 (some .int) 0 := ⟨lw_c6 34 rfl rfl, cl_X11.1, cl_X11.2.1, cl_X11.2.2, by decide +kernel⟩
set_option maxRecDepth 20000 in
theorem mv_X11_clear : xMv yX11_clear := ⟨lw_c6 32 rfl rfl, lw_c6 33 rfl rfl⟩
set_option maxRecDepth 20000 in
theorem mf_X11_say : xMf yX11_say cX11_say 2 (some .int) 1 := ⟨lw_c6 38 rfl rfl, cl_X11.1, cl_X11.2.1, cl_X11.2.2, by decide +kernel⟩
set_option maxRecDepth 20000 in
theorem mv_X11_say : xMv yX11_say := ⟨lw_c6 36 rfl rfl, lw_c6 37 rfl rfl⟩
set_option maxRecDepth 20000 in
theorem mf_X11_fill : xMf yX11_fill cX11_fill 2 (some .int) 1 := ⟨lw_c6 47 rfl rfl, cl_X11.1, cl_X11.2.1, cl_X11.2.2, by decide +kernel⟩
set_option maxRecDepth 20000 in
theorem mv_X11_fill : xMv yX11_fill := ⟨lw_c6 45 rfl rfl, lw_c6 46 rfl rfl⟩
set_option maxRecDepth 20000 in
theorem mf_X11_filled : xMf yX11_filled cX11_filled 4 (some .int) 2 := ⟨lw_c6 122 rfl rfl, cl_X11.1, cl_X11.2.1, cl_X11.2.2, by decide +kernel⟩
set_option maxRecDepth 20000 in
theorem mv_X11_filled : xMv yX11_filled := ⟨lw_c6 120 rfl rfl, lw_c6 121 rfl rfl⟩
set_option maxRecDepth 20000 in
theorem mf_X11_fills : xMf yX11_fills cX11_fills 1 (some .int) 0 := ⟨lw_c6 127 rfl rfl, cl_X11.1, cl_X11.2.1, cl_X11.2.2, by decide +kernel⟩
set_option maxRecDepth 20000 in
theorem mv_X11_fills : xMv yX11_fills := ⟨lw_c6 125 rfl rfl, lw_c6 126 rfl rfl⟩
set_option maxRecDepth 20000 in
theorem mf_X11_judge : xMf yX11_judge cX11_judge 2 (some .int) 0 := ⟨lw_c6 135 rfl rfl, cl_X11.1, cl_X11.2.1, cl_X11.2.2, by decide +kernel⟩
set_option maxRecDepth 20000 in
theorem mv_X11_judge : xMv yX11_judge := ⟨lw_c6 133 rfl rfl, lw_c6 134 rfl rfl⟩
set_option maxRecDepth 20000 in
theorem mf_X11_judgeSpellings : xMf yX11_judgeSpellings cX11_judgeSpellings 3 (some .int) 0 := ⟨lw_c6 144 rfl rfl, cl_X11.1, cl_X11.2.1, cl_X11.2.2, by decide +kernel⟩
set_option maxRecDepth 20000 in
theorem mv_X11_judgeSpellings : xMv yX11_judgeSpellings := ⟨lw_c6 143 rfl rfl, lw_gp (List.mem_of_getElem? (i := 56) (by decide +kernel)) rfl⟩
set_option maxRecDepth 20000 in
theorem mf_X11_value : xMf yX11_value cX11_value 7 (some .int) 3 := ⟨lw_c6 154 rfl rfl, cl_X11.1, cl_X11.2.1, cl_X11.2.2, by decide +kernel⟩
set_option maxRecDepth 20000 in
theorem mv_X11_value : xMv yX11_value := ⟨lw_c6 152 rfl rfl, lw_c6 153 rfl rfl⟩
set_option maxRecDepth 20000 in
theorem mf_X11_valueOn : xMf yX11_valueOn cX11_valueOn 8 (some .int) 4 := ⟨lw_c6 167 rfl rfl, cl_X11.1, cl_X11.2.1, cl_X11.2.2, by decide +kernel⟩
set_option maxRecDepth 20000 in
theorem mv_X11_valueOn : xMv yX11_valueOn := ⟨lw_c6 165 rfl rfl, lw_c6 166 rfl rfl⟩
set_option maxRecDepth 20000 in
theorem mf_X11_count : xMf yX11_count cX11_count 2 (some .int) 1 := ⟨lw_c6 172 rfl rfl, cl_X11.1, cl_X11.2.1, cl_X11.2.2, by decide +kernel⟩
set_option maxRecDepth 20000 in
theorem mv_X11_count : xMv yX11_count := ⟨lw_c6 170 rfl rfl, lw_c6 171 rfl rfl⟩
set_option maxRecDepth 20000 in
theorem mf_X11_isDay : xMf yX11_isDay cX11_isDay 1 (some .boolean) 1 := ⟨lw_c5 187 rfl rfl, cl_X11.1, cl_X11.2.1, cl_X11.2.2, by decide +kernel⟩
set_option maxRecDepth 20000 in
theorem mt_X11_isDay : Cond.static yX11_isDay ∈ lw_g := lw_c5 186 rfl rfl
set_option maxRecDepth 20000 in
theorem mf_X11_soundAt : xMf yX11_soundAt cX11_soundAt 2 (some .int) 2 := ⟨lw_c4 59 rfl rfl, cl_X11.1, cl_X11.2.1, cl_X11.2.2, by decide +kernel⟩
set_option maxRecDepth 20000 in
theorem mt_X11_soundAt : Cond.static yX11_soundAt ∈ lw_g := lw_c4 58 rfl rfl
set_option maxRecDepth 20000 in
theorem mf_X11_soundOf : xMf yX11_soundOf cX11_soundOf 5 (some .int) 4 := ⟨lw_c4 56 rfl rfl, cl_X11.1, cl_X11.2.1, cl_X11.2.2, by decide +kernel⟩
set_option maxRecDepth 20000 in
theorem mt_X11_soundOf : Cond.static yX11_soundOf ∈ lw_g := lw_c4 55 rfl rfl
set_option maxRecDepth 20000 in
theorem mf_X11_withSign : xMf yX11_withSign cX11_withSign 3 (some .long) 2 := ⟨lw_c5 111 rfl rfl, cl_X11.1, cl_X11.2.1, cl_X11.2.2, by decide +kernel⟩
set_option maxRecDepth 20000 in
theorem mt_X11_withSign : Cond.static yX11_withSign ∈ lw_g := lw_c5 110 rfl rfl
set_option maxRecDepth 20000 in
theorem mf_X11_signOf : xMf yX11_signOf cX11_signOf 4 (some .int) 3 := ⟨lw_c5 130 rfl rfl, cl_X11.1, cl_X11.2.1, cl_X11.2.2, by decide +kernel⟩
set_option maxRecDepth 20000 in
theorem mt_X11_signOf : Cond.static yX11_signOf ∈ lw_g := lw_c5 129 rfl rfl
set_option maxRecDepth 20000 in
theorem mf_X11_sizeOf : xMf yX11_sizeOf cX11_sizeOf 2 (some .int) 2 := ⟨lw_c4 140 rfl rfl, cl_X11.1, cl_X11.2.1, cl_X11.2.2, by decide +kernel⟩
set_option maxRecDepth 20000 in
theorem mt_X11_sizeOf : Cond.static yX11_sizeOf ∈ lw_g := lw_c4 139 rfl rfl
set_option maxRecDepth 20000 in
theorem mf_X11_widthOf : xMf yX11_widthOf cX11_widthOf 1 (some .int) 1 := ⟨lw_c4 167 rfl rfl, cl_X11.1, cl_X11.2.1, cl_X11.2.2, by decide +kernel⟩
set_option maxRecDepth 20000 in
theorem mt_X11_widthOf : Cond.static yX11_widthOf ∈ lw_g := lw_c4 166 rfl rfl
set_option maxRecDepth 20000 in
theorem mf_X11_heightOf : xMf yX11_heightOf cX11_heightOf 1 (some .int) 1 := ⟨lw_c4 163 rfl rfl, cl_X11.1, cl_X11.2.1, cl_X11.2.2, by decide +kernel⟩
set_option maxRecDepth 20000 in
theorem mt_X11_heightOf : Cond.static yX11_heightOf ∈ lw_g := lw_c4 162 rfl rfl
set_option maxRecDepth 20000 in
theorem mf_X11_edgeOf : xMf yX11_edgeOf cX11_edgeOf 1 (some .int) 1 := ⟨lw_c4 178 rfl rfl, cl_X11.1, cl_X11.2.1, cl_X11.2.2, by decide +kernel⟩
set_option maxRecDepth 20000 in
theorem mt_X11_edgeOf : Cond.static yX11_edgeOf ∈ lw_g := lw_c4 177 rfl rfl
set_option maxRecDepth 20000 in
theorem cl_X12 : Cond.initialized RX12 ∈ lw_g ∧ RX12 ≠ "java/lang/invoke/MethodHandle" ∧ RX12 ≠ "java/lang/invoke/VarHandle" := ⟨lw_c1 14 rfl rfl, by decide +kernel, by decide +kernel⟩
theorem pn_X12 : plainName RX12 = true := by decide +kernel
set_option maxRecDepth 20000 in
theorem mf_X12_init : xMf yX12_init cX12_init 1 none 0 := ⟨lw_c6 177 rfl rfl, cl_X12.1, cl_X12.2.1, cl_X12.2.2, by decide +kernel⟩
set_option maxRecDepth 20000 in
theorem mf_X12_in : xMf yX12_in cX12_in 3 (some .boolean) 3 := ⟨lw_c8 66 rfl rfl, cl_X12.1, cl_X12.2.1, cl_X12.2.2, by decide +kernel⟩
set_option maxRecDepth 20000 in
theorem mt_X12_in : Cond.static yX12_in ∈ lw_g := lw_c8 65 rfl rfl
set_option maxRecDepth 20000 in
theorem mf_X12_greater : xMf yX12_greater cX12_greater 2 (some .int) 2 := ⟨lw_c8 133 rfl rfl, cl_X12.1, cl_X12.2.1, cl_X12.2.2, by decide +kernel⟩
set_option maxRecDepth 20000 in
theorem mt_X12_greater : Cond.static yX12_greater ∈ lw_g := lw_c8 132 rfl rfl
set_option maxRecDepth 20000 in
theorem mf_X12_feed : xMf yX12_feed cX12_feed 9 (some .int) 5 := ⟨lw_c8 20 rfl rfl, cl_X12.1, cl_X12.2.1, cl_X12.2.2, by decide +kernel⟩
set_option maxRecDepth 20000 in
theorem mv_X12_feed : xMv yX12_feed := ⟨lw_c8 18 rfl rfl, lw_c8 19 rfl rfl⟩
set_option maxRecDepth 20000 in
theorem mf_X12_end : xMf yX12_end cX12_end 2 (some .int) 1 := ⟨lw_c8 24 rfl rfl, cl_X12.1, cl_X12.2.1, cl_X12.2.2, by decide +kernel⟩
set_option maxRecDepth 20000 in
theorem mv_X12_end : xMv yX12_end := ⟨lw_c8 22 rfl rfl, lw_c8 23 rfl rfl⟩
set_option maxRecDepth 20000 in
theorem mf_X12_take : xMf yX12_take cX12_take 1 none 0 := ⟨lw_c8 36 rfl rfl, cl_X12.1, cl_X12.2.1, cl_X12.2.2, by decide +kernel⟩
set_option maxRecDepth 20000 in
theorem mv_X12_take : xMv yX12_take := ⟨lw_c8 35 rfl rfl, lw_gp (List.mem_of_getElem? (i := 59) (by decide +kernel)) rfl⟩
set_option maxRecDepth 20000 in
theorem mf_X12_see : xMf yX12_see cX12_see 2 (some .int) 1 := ⟨lw_c8 44 rfl rfl, cl_X12.1, cl_X12.2.1, cl_X12.2.2, by decide +kernel⟩
set_option maxRecDepth 20000 in
theorem mv_X12_see : xMv yX12_see := ⟨lw_c8 43 rfl rfl, lw_gp (List.mem_of_getElem? (i := 61) (by decide +kernel)) rfl⟩
set_option maxRecDepth 20000 in
theorem mf_X12_isSmall : xMf yX12_isSmall cX12_isSmall 1 (some .boolean) 1 := ⟨lw_c8 47 rfl rfl, cl_X12.1, cl_X12.2.1, cl_X12.2.2, by decide +kernel⟩
set_option maxRecDepth 20000 in
theorem mt_X12_isSmall : Cond.static yX12_isSmall ∈ lw_g := lw_c8 46 rfl rfl
set_option maxRecDepth 20000 in
theorem mf_X12_isDigit : xMf yX12_isDigit cX12_isDigit 1 (some .boolean) 1 := ⟨lw_c8 59 rfl rfl, cl_X12.1, cl_X12.2.1, cl_X12.2.2, by decide +kernel⟩
set_option maxRecDepth 20000 in
theorem mt_X12_isDigit : Cond.static yX12_isDigit ∈ lw_g := lw_c8 58 rfl rfl
set_option maxRecDepth 20000 in
theorem mf_X12_keyAt : xMf yX12_keyAt cX12_keyAt 8 (some .int) 2 := ⟨lw_c8 53 rfl rfl, cl_X12.1, cl_X12.2.1, cl_X12.2.2, by decide +kernel⟩
set_option maxRecDepth 20000 in
theorem mv_X12_keyAt : xMv yX12_keyAt := ⟨lw_c8 52 rfl rfl, lw_gp (List.mem_of_getElem? (i := 62) (by decide +kernel)) rfl⟩
set_option maxRecDepth 20000 in
theorem mf_X12_scan : xMf yX12_scan cX12_scan 4 none 0 := ⟨lw_c8 40 rfl rfl, cl_X12.1, cl_X12.2.1, cl_X12.2.2, by decide +kernel⟩
set_option maxRecDepth 20000 in
theorem mv_X12_scan : xMv yX12_scan := ⟨lw_c8 39 rfl rfl, lw_gp (List.mem_of_getElem? (i := 60) (by decide +kernel)) rfl⟩
set_option maxRecDepth 20000 in
theorem mf_X12_isRow : xMf yX12_isRow cX12_isRow 2 (some .boolean) 0 := ⟨lw_c8 86 rfl rfl, cl_X12.1, cl_X12.2.1, cl_X12.2.2, by decide +kernel⟩
set_option maxRecDepth 20000 in
theorem mv_X12_isRow : xMv yX12_isRow := ⟨lw_c8 85 rfl rfl, lw_gp (List.mem_of_getElem? (i := 68) (by decide +kernel)) rfl⟩
set_option maxRecDepth 20000 in
theorem mf_X12_fails : xMf yX12_fails cX12_fails 2 (some .boolean) 1 := ⟨lw_c8 70 rfl rfl, cl_X12.1, cl_X12.2.1, cl_X12.2.2, by decide +kernel⟩
set_option maxRecDepth 20000 in
theorem mv_X12_fails : xMv yX12_fails := ⟨lw_c8 69 rfl rfl, lw_gp (List.mem_of_getElem? (i := 64) (by decide +kernel)) rfl⟩
set_option maxRecDepth 20000 in
theorem mf_X12_readNumber : xMf yX12_readNumber cX12_readNumber 3 (some .boolean) 2 := ⟨lw_c8 82 rfl rfl, cl_X12.1, cl_X12.2.1, cl_X12.2.2, by decide +kernel⟩
set_option maxRecDepth 20000 in
theorem mv_X12_readNumber : xMv yX12_readNumber := ⟨lw_c8 81 rfl rfl, lw_gp (List.mem_of_getElem? (i := 67) (by decide +kernel)) rfl⟩
set_option maxRecDepth 20000 in
theorem mf_X12_fault : xMf yX12_fault cX12_fault 2 (some .int) 1 := ⟨lw_c8 28 rfl rfl, cl_X12.1, cl_X12.2.1, cl_X12.2.2, by decide +kernel⟩
set_option maxRecDepth 20000 in
theorem mv_X12_fault : xMv yX12_fault := ⟨lw_c8 26 rfl rfl, lw_c8 27 rfl rfl⟩
set_option maxRecDepth 20000 in
theorem mf_X12_beginDraft : xMf yX12_beginDraft cX12_beginDraft 1 none 0 := ⟨lw_c6 182 rfl rfl, cl_X12.1, cl_X12.2.1, cl_X12.2.2, by decide +kernel⟩
set_option maxRecDepth 20000 in
theorem mv_X12_beginDraft : xMv yX12_beginDraft := ⟨lw_c6 181 rfl rfl, lw_gp (List.mem_of_getElem? (i := 57) (by decide +kernel)) rfl⟩
set_option maxRecDepth 20000 in
theorem mf_X12_takeDraft : xMf yX12_takeDraft cX12_takeDraft 4 none 0 := ⟨lw_c6 186 rfl rfl, cl_X12.1, cl_X12.2.1, cl_X12.2.2, by decide +kernel⟩
set_option maxRecDepth 20000 in
theorem mv_X12_takeDraft : xMv yX12_takeDraft := ⟨lw_c6 185 rfl rfl, lw_gp (List.mem_of_getElem? (i := 58) (by decide +kernel)) rfl⟩
set_option maxRecDepth 20000 in
theorem mf_X12_signOf : xMf yX12_signOf cX12_signOf 6 (some .int) 3 := ⟨lw_c8 78 rfl rfl, cl_X12.1, cl_X12.2.1, cl_X12.2.2, by decide +kernel⟩
set_option maxRecDepth 20000 in
theorem mv_X12_signOf : xMv yX12_signOf := ⟨lw_c8 77 rfl rfl, lw_gp (List.mem_of_getElem? (i := 66) (by decide +kernel)) rfl⟩
set_option maxRecDepth 20000 in
theorem mf_X12_readSign : xMf yX12_readSign cX12_readSign 4 (some .boolean) 0 := ⟨lw_c8 74 rfl rfl, cl_X12.1, cl_X12.2.1, cl_X12.2.2, by decide +kernel⟩
set_option maxRecDepth 20000 in
theorem mv_X12_readSign : xMv yX12_readSign := ⟨lw_c8 73 rfl rfl, lw_gp (List.mem_of_getElem? (i := 65) (by decide +kernel)) rfl⟩
set_option maxRecDepth 20000 in
theorem mf_X12_readClause : xMf yX12_readClause cX12_readClause 3 (some .boolean) 0 := ⟨lw_c8 63 rfl rfl, cl_X12.1, cl_X12.2.1, cl_X12.2.2, by decide +kernel⟩
set_option maxRecDepth 20000 in
theorem mv_X12_readClause : xMv yX12_readClause := ⟨lw_c8 62 rfl rfl, lw_gp (List.mem_of_getElem? (i := 63) (by decide +kernel)) rfl⟩
set_option maxRecDepth 20000 in
theorem mf_X12_list : xMf yX12_list cX12_list 2 (some .int) 0 := ⟨lw_c8 32 rfl rfl, cl_X12.1, cl_X12.2.1, cl_X12.2.2, by decide +kernel⟩
set_option maxRecDepth 20000 in
theorem mv_X12_list : xMv yX12_list := ⟨lw_c8 30 rfl rfl, lw_c8 31 rfl rfl⟩
set_option maxRecDepth 20000 in
theorem mf_X12_rule : xMf yX12_rule cX12_rule 2 (some .int) 1 := ⟨lw_c8 90 rfl rfl, cl_X12.1, cl_X12.2.1, cl_X12.2.2, by decide +kernel⟩
set_option maxRecDepth 20000 in
theorem mv_X12_rule : xMv yX12_rule := ⟨lw_c8 88 rfl rfl, lw_c8 89 rfl rfl⟩
set_option maxRecDepth 20000 in
theorem mf_X12_sign : xMf yX12_sign cX12_sign 3 (some .int) 2 := ⟨lw_c8 94 rfl rfl, cl_X12.1, cl_X12.2.1, cl_X12.2.2, by decide +kernel⟩
set_option maxRecDepth 20000 in
theorem mv_X12_sign : xMv yX12_sign := ⟨lw_c8 92 rfl rfl, lw_c8 93 rfl rfl⟩
set_option maxRecDepth 20000 in
theorem mf_X12_named : xMf yX12_named cX12_named 3 (some .int) 0 := ⟨lw_c8 98 rfl rfl, cl_X12.1, cl_X12.2.1, cl_X12.2.2, by decide +kernel⟩
set_option maxRecDepth 20000 in
theorem mv_X12_named : xMv yX12_named := ⟨lw_c8 96 rfl rfl, lw_c8 97 rfl rfl⟩
set_option maxRecDepth 20000 in
theorem mf_X12_makePart : xMf yX12_makePart cX12_makePart 2 (some .int) 1 := ⟨lw_c8 126 rfl rfl, cl_X12.1, cl_X12.2.1, cl_X12.2.2, by decide +kernel⟩
set_option maxRecDepth 20000 in
theorem mv_X12_makePart : xMv yX12_makePart := ⟨lw_c8 125 rfl rfl, lw_gp (List.mem_of_getElem? (i := 74) (by decide +kernel)) rfl⟩
set_option maxRecDepth 20000 in
theorem mf_X12_readName : xMf yX12_readName cX12_readName 2 (some .int) 0 := ⟨lw_c8 122 rfl rfl, cl_X12.1, cl_X12.2.1, cl_X12.2.2, by decide +kernel⟩
set_option maxRecDepth 20000 in
theorem mv_X12_readName : xMv yX12_readName := ⟨lw_c8 121 rfl rfl, lw_gp (List.mem_of_getElem? (i := 73) (by decide +kernel)) rfl⟩
set_option maxRecDepth 20000 in
theorem mf_X12_readItem : xMf yX12_readItem cX12_readItem 4 (some .boolean) 0 := ⟨lw_c8 118 rfl rfl, cl_X12.1, cl_X12.2.1, cl_X12.2.2, by decide +kernel⟩
set_option maxRecDepth 20000 in
theorem mv_X12_readItem : xMv yX12_readItem := ⟨lw_c8 117 rfl rfl, lw_gp (List.mem_of_getElem? (i := 72) (by decide +kernel)) rfl⟩
set_option maxRecDepth 20000 in
theorem mf_X12_readRowOf : xMf yX12_readRowOf cX12_readRowOf 5 (some .boolean) 1 := ⟨lw_c8 114 rfl rfl, cl_X12.1, cl_X12.2.1, cl_X12.2.2, by decide +kernel⟩
set_option maxRecDepth 20000 in
theorem mv_X12_readRowOf : xMv yX12_readRowOf := ⟨lw_c8 113 rfl rfl, lw_gp (List.mem_of_getElem? (i := 71) (by decide +kernel)) rfl⟩
set_option maxRecDepth 20000 in
theorem mf_X12_readBlock : xMf yX12_readBlock cX12_readBlock 1 (some .boolean) 0 := ⟨lw_c8 110 rfl rfl, cl_X12.1, cl_X12.2.1, cl_X12.2.2, by decide +kernel⟩
set_option maxRecDepth 20000 in
theorem mv_X12_readBlock : xMv yX12_readBlock := ⟨lw_c8 109 rfl rfl, lw_gp (List.mem_of_getElem? (i := 70) (by decide +kernel)) rfl⟩
set_option maxRecDepth 20000 in
theorem mf_X12_measure : xMf yX12_measure cX12_measure 6 none 1 := ⟨lw_c8 130 rfl rfl, cl_X12.1, cl_X12.2.1, cl_X12.2.2, by decide +kernel⟩
set_option maxRecDepth 20000 in
theorem mv_X12_measure : xMv yX12_measure := ⟨lw_c8 129 rfl rfl, lw_gp (List.mem_of_getElem? (i := 75) (by decide +kernel)) rfl⟩
set_option maxRecDepth 20000 in
theorem mf_X12_lay : xMf yX12_lay cX12_lay 8 none 4 := ⟨lw_c8 137 rfl rfl, cl_X12.1, cl_X12.2.1, cl_X12.2.2, by decide +kernel⟩
set_option maxRecDepth 20000 in
theorem mv_X12_lay : xMv yX12_lay := ⟨lw_c8 136 rfl rfl, lw_gp (List.mem_of_getElem? (i := 76) (by decide +kernel)) rfl⟩
set_option maxRecDepth 20000 in
theorem mf_X12_layOne : xMf yX12_layOne cX12_layOne 7 none 6 := ⟨lw_c8 141 rfl rfl, cl_X12.1, cl_X12.2.1, cl_X12.2.2, by decide +kernel⟩
set_option maxRecDepth 20000 in
theorem mv_X12_layOne : xMv yX12_layOne := ⟨lw_c8 140 rfl rfl, lw_gp (List.mem_of_getElem? (i := 77) (by decide +kernel)) rfl⟩
set_option maxRecDepth 20000 in
theorem mf_X12_readBlocks : xMf yX12_readBlocks cX12_readBlocks 2 (some .boolean) 0 := ⟨lw_c8 106 rfl rfl, cl_X12.1, cl_X12.2.1, cl_X12.2.2, by decide +kernel⟩
set_option maxRecDepth 20000 in
theorem mv_X12_readBlocks : xMv yX12_readBlocks := ⟨lw_c8 105 rfl rfl, lw_gp (List.mem_of_getElem? (i := 69) (by decide +kernel)) rfl⟩
set_option maxRecDepth 20000 in
theorem mf_X12_blocks : xMf yX12_blocks cX12_blocks 3 (some .int) 0 := ⟨lw_c8 102 rfl rfl, cl_X12.1, cl_X12.2.1, cl_X12.2.2, by decide +kernel⟩
set_option maxRecDepth 20000 in
theorem mv_X12_blocks : xMv yX12_blocks := ⟨lw_c8 100 rfl rfl, lw_c8 101 rfl rfl⟩
set_option maxRecDepth 20000 in
theorem mf_X12_greatest : xMf yX12_greatest cX12_greatest 3 (some .int) 2 := ⟨lw_c8 153 rfl rfl, cl_X12.1, cl_X12.2.1, cl_X12.2.2, by decide +kernel⟩
set_option maxRecDepth 20000 in
theorem mv_X12_greatest : xMv yX12_greatest := ⟨lw_c8 152 rfl rfl, lw_gp (List.mem_of_getElem? (i := 79) (by decide +kernel)) rfl⟩
set_option maxRecDepth 20000 in
theorem mf_X12_percent : xMf yX12_percent cX12_percent 3 (some .int) 2 := ⟨lw_c8 149 rfl rfl, cl_X12.1, cl_X12.2.1, cl_X12.2.2, by decide +kernel⟩
set_option maxRecDepth 20000 in
theorem mv_X12_percent : xMv yX12_percent := ⟨lw_c8 148 rfl rfl, lw_gp (List.mem_of_getElem? (i := 78) (by decide +kernel)) rfl⟩
set_option maxRecDepth 20000 in
theorem mf_X12_shrunk : xMf yX12_shrunk cX12_shrunk 3 (some .int) 2 := ⟨lw_c8 157 rfl rfl, cl_X12.1, cl_X12.2.1, cl_X12.2.2, by decide +kernel⟩
set_option maxRecDepth 20000 in
theorem mv_X12_shrunk : xMv yX12_shrunk := ⟨lw_c8 156 rfl rfl, lw_gp (List.mem_of_getElem? (i := 80) (by decide +kernel)) rfl⟩
set_option maxRecDepth 20000 in
theorem mf_X12_block : xMf yX12_block cX12_block 3 (some .int) 2 := ⟨lw_c8 145 rfl rfl, cl_X12.1, cl_X12.2.1, cl_X12.2.2, by decide +kernel⟩
set_option maxRecDepth 20000 in
theorem mv_X12_block : xMv yX12_block := ⟨lw_c8 143 rfl rfl, lw_c8 144 rfl rfl⟩
set_option maxRecDepth 20000 in
theorem mf_X12_box : xMf yX12_box cX12_box 5 (some .int) 2 := ⟨lw_c8 161 rfl rfl, cl_X12.1, cl_X12.2.1, cl_X12.2.2, by decide +kernel⟩
set_option maxRecDepth 20000 in
theorem mv_X12_box : xMv yX12_box := ⟨lw_c8 159 rfl rfl, lw_c8 160 rfl rfl⟩
set_option maxRecDepth 20000 in
theorem mf_X12_face : xMf yX12_face cX12_face 3 (some .int) 1 := ⟨lw_c8 165 rfl rfl, cl_X12.1, cl_X12.2.1, cl_X12.2.2, by decide +kernel⟩
set_option maxRecDepth 20000 in
theorem mv_X12_face : xMv yX12_face := ⟨lw_c8 163 rfl rfl, lw_c8 164 rfl rfl⟩
set_option maxRecDepth 20000 in
theorem mf_X12_term : xMf yX12_term cX12_term 8 (some .int) 0 := ⟨lw_c8 169 rfl rfl, cl_X12.1, cl_X12.2.1, cl_X12.2.2, by decide +kernel⟩
set_option maxRecDepth 20000 in
theorem mv_X12_term : xMv yX12_term := ⟨lw_c8 167 rfl rfl, lw_c8 168 rfl rfl⟩
set_option maxRecDepth 20000 in
theorem mf_X12_isTerm : xMf yX12_isTerm cX12_isTerm 2 (some .boolean) 1 := ⟨lw_c8 177 rfl rfl, cl_X12.1, cl_X12.2.1, cl_X12.2.2, by decide +kernel⟩
set_option maxRecDepth 20000 in
theorem mv_X12_isTerm : xMv yX12_isTerm := ⟨lw_c8 176 rfl rfl, lw_gp (List.mem_of_getElem? (i := 81) (by decide +kernel)) rfl⟩
set_option maxRecDepth 20000 in
theorem mf_X12_about : xMf yX12_about cX12_about 3 (some .int) 2 := ⟨lw_c8 173 rfl rfl, cl_X12.1, cl_X12.2.1, cl_X12.2.2, by decide +kernel⟩
set_option maxRecDepth 20000 in
theorem mv_X12_about : xMv yX12_about := ⟨lw_c8 171 rfl rfl, lw_c8 172 rfl rfl⟩
set_option maxRecDepth 20000 in
theorem mf_X12_asListed : xMf yX12_asListed cX12_asListed 3 none 0 := ⟨lw_c8 190 rfl rfl, cl_X12.1, cl_X12.2.1, cl_X12.2.2, by decide +kernel⟩
set_option maxRecDepth 20000 in
theorem mv_X12_asListed : xMv yX12_asListed := ⟨lw_c8 189 rfl rfl, lw_gp (List.mem_of_getElem? (i := 83) (by decide +kernel)) rfl⟩
set_option maxRecDepth 20000 in
theorem mf_X12_isIdea : xMf yX12_isIdea cX12_isIdea 3 (some .boolean) 2 := ⟨lw_c8 203 rfl rfl, cl_X12.1, cl_X12.2.1, cl_X12.2.2, by decide +kernel⟩
set_option maxRecDepth 20000 in
theorem mv_X12_isIdea : xMv yX12_isIdea := ⟨lw_c8 202 rfl rfl, lw_gp (List.mem_of_getElem? (i := 86) (by decide +kernel)) rfl⟩
set_option maxRecDepth 20000 in
theorem mf_X12_isKind : xMf yX12_isKind cX12_isKind 3 (some .boolean) 2 := ⟨lw_c8 211 rfl rfl, cl_X12.1, cl_X12.2.1, cl_X12.2.2, by decide +kernel⟩
set_option maxRecDepth 20000 in
theorem mv_X12_isKind : xMv yX12_isKind := ⟨lw_c8 210 rfl rfl, lw_gp (List.mem_of_getElem? (i := 88) (by decide +kernel)) rfl⟩
set_option maxRecDepth 20000 in
theorem mf_X12_isAt : xMf yX12_isAt cX12_isAt 5 (some .boolean) 3 := ⟨lw_c8 199 rfl rfl, cl_X12.1, cl_X12.2.1, cl_X12.2.2, by decide +kernel⟩
set_option maxRecDepth 20000 in
theorem mv_X12_isAt : xMv yX12_isAt := ⟨lw_c8 198 rfl rfl, lw_gp (List.mem_of_getElem? (i := 85) (by decide +kernel)) rfl⟩
set_option maxRecDepth 20000 in
theorem mf_X12_isTail : xMf yX12_isTail cX12_isTail 3 (some .boolean) 2 := ⟨lw_c8 236 rfl rfl, cl_X12.1, cl_X12.2.1, cl_X12.2.2, by decide +kernel⟩
set_option maxRecDepth 20000 in
theorem mv_X12_isTail : xMv yX12_isTail := ⟨lw_c8 235 rfl rfl, lw_gp (List.mem_of_getElem? (i := 94) (by decide +kernel)) rfl⟩
set_option maxRecDepth 20000 in
theorem mf_X12_beginCover : xMf yX12_beginCover cX12_beginCover 2 none 0 := ⟨lw_c9 0 rfl rfl, cl_X12.1, cl_X12.2.1, cl_X12.2.2, by decide +kernel⟩
set_option maxRecDepth 20000 in
theorem mv_X12_beginCover : xMv yX12_beginCover := ⟨lw_c8 239 rfl rfl, lw_gp (List.mem_of_getElem? (i := 95) (by decide +kernel)) rfl⟩
set_option maxRecDepth 20000 in
theorem mf_X12_coverOn : xMf yX12_coverOn cX12_coverOn 8 (some .boolean) 3 := ⟨lw_c9 12 rfl rfl, cl_X12.1, cl_X12.2.1, cl_X12.2.2, by decide +kernel⟩
set_option maxRecDepth 20000 in
theorem mv_X12_coverOn : xMv yX12_coverOn := ⟨lw_c9 11 rfl rfl, lw_gp (List.mem_of_getElem? (i := 98) (by decide +kernel)) rfl⟩
set_option maxRecDepth 20000 in
theorem mf_X12_isCovered : xMf yX12_isCovered cX12_isCovered 3 (some .boolean) 2 := ⟨lw_c9 8 rfl rfl, cl_X12.1, cl_X12.2.1, cl_X12.2.2, by decide +kernel⟩
set_option maxRecDepth 20000 in
theorem mv_X12_isCovered : xMv yX12_isCovered := ⟨lw_c9 7 rfl rfl, lw_gp (List.mem_of_getElem? (i := 97) (by decide +kernel)) rfl⟩
set_option maxRecDepth 20000 in
theorem mf_X12_isSpelling : xMf yX12_isSpelling cX12_isSpelling 7 (some .boolean) 4 := ⟨lw_c9 52 rfl rfl, cl_X12.1, cl_X12.2.1, cl_X12.2.2, by decide +kernel⟩
set_option maxRecDepth 20000 in
theorem mv_X12_isSpelling : xMv yX12_isSpelling := ⟨lw_c9 51 rfl rfl, lw_gp (List.mem_of_getElem? (i := 103) (by decide +kernel)) rfl⟩
set_option maxRecDepth 20000 in
theorem mf_X12_makeLeft : xMf yX12_makeLeft cX12_makeLeft 4 none 1 := ⟨lw_c8 194 rfl rfl, cl_X12.1, cl_X12.2.1, cl_X12.2.2, by decide +kernel⟩
set_option maxRecDepth 20000 in
theorem mv_X12_makeLeft : xMv yX12_makeLeft := ⟨lw_c8 193 rfl rfl, lw_gp (List.mem_of_getElem? (i := 84) (by decide +kernel)) rfl⟩
set_option maxRecDepth 20000 in
theorem mf_X12_canEnd : xMf yX12_canEnd cX12_canEnd 5 (some .boolean) 3 := ⟨lw_c9 16 rfl rfl, cl_X12.1, cl_X12.2.1, cl_X12.2.2, by decide +kernel⟩
set_option maxRecDepth 20000 in
theorem mv_X12_canEnd : xMv yX12_canEnd := ⟨lw_c9 15 rfl rfl, lw_gp (List.mem_of_getElem? (i := 99) (by decide +kernel)) rfl⟩
set_option maxRecDepth 20000 in
theorem mf_X12_bodyComes : xMf yX12_bodyComes cX12_bodyComes 4 none 2 := ⟨lw_c8 207 rfl rfl, cl_X12.1, cl_X12.2.1, cl_X12.2.2, by decide +kernel⟩
set_option maxRecDepth 20000 in
theorem mv_X12_bodyComes : xMv yX12_bodyComes := ⟨lw_c8 206 rfl rfl, lw_gp (List.mem_of_getElem? (i := 87) (by decide +kernel)) rfl⟩
set_option maxRecDepth 20000 in
theorem mf_X12_coversFrom : xMf yX12_coversFrom cX12_coversFrom 5 none 3 := ⟨lw_c9 4 rfl rfl, cl_X12.1, cl_X12.2.1, cl_X12.2.2, by decide +kernel⟩
set_option maxRecDepth 20000 in
theorem mv_X12_coversFrom : xMv yX12_coversFrom := ⟨lw_c9 3 rfl rfl, lw_gp (List.mem_of_getElem? (i := 96) (by decide +kernel)) rfl⟩
set_option maxRecDepth 20000 in
theorem mf_X12_goThrough : xMf yX12_goThrough cX12_goThrough 6 (some .int) 3 := ⟨lw_c8 186 rfl rfl, cl_X12.1, cl_X12.2.1, cl_X12.2.2, by decide +kernel⟩
set_option maxRecDepth 20000 in
theorem mv_X12_goThrough : xMv yX12_goThrough := ⟨lw_c8 185 rfl rfl, lw_gp (List.mem_of_getElem? (i := 82) (by decide +kernel)) rfl⟩
set_option maxRecDepth 20000 in
theorem mf_X12_spellings : xMf yX12_spellings cX12_spellings 2 (some .int) 1 := ⟨lw_c8 181 rfl rfl, cl_X12.1, cl_X12.2.1, cl_X12.2.2, by decide +kernel⟩
set_option maxRecDepth 20000 in
theorem mv_X12_spellings : xMv yX12_spellings := ⟨lw_c8 179 rfl rfl, lw_c8 180 rfl rfl⟩
set_option maxRecDepth 20000 in
theorem mf_X12_paint : xMf yX12_paint cX12_paint 2 (some .int) 1 := ⟨lw_c8 232 rfl rfl, cl_X12.1, cl_X12.2.1, cl_X12.2.2, by decide +kernel⟩
set_option maxRecDepth 20000 in
theorem mv_X12_paint : xMv yX12_paint := ⟨lw_c8 231 rfl rfl, lw_gp (List.mem_of_getElem? (i := 93) (by decide +kernel)) rfl⟩
set_option maxRecDepth 20000 in
theorem mf_X12_bestOf : xMf yX12_bestOf cX12_bestOf 7 (some .int) 1 := ⟨lw_c9 24 rfl rfl, cl_X12.1, cl_X12.2.1, cl_X12.2.2, by decide +kernel⟩
set_option maxRecDepth 20000 in
theorem mv_X12_bestOf : xMv yX12_bestOf := ⟨lw_c9 23 rfl rfl, lw_gp (List.mem_of_getElem? (i := 100) (by decide +kernel)) rfl⟩
set_option maxRecDepth 20000 in
theorem mf_X12_best : xMf yX12_best cX12_best 2 (some .int) 1 := ⟨lw_c9 20 rfl rfl, cl_X12.1, cl_X12.2.1, cl_X12.2.2, by decide +kernel⟩
set_option maxRecDepth 20000 in
theorem mv_X12_best : xMv yX12_best := ⟨lw_c9 18 rfl rfl, lw_c9 19 rfl rfl⟩
set_option maxRecDepth 20000 in
theorem mf_X12_bestSign : xMf yX12_bestSign cX12_bestSign 3 (some .int) 2 := ⟨lw_c9 28 rfl rfl, cl_X12.1, cl_X12.2.1, cl_X12.2.2, by decide +kernel⟩
set_option maxRecDepth 20000 in
theorem mv_X12_bestSign : xMv yX12_bestSign := ⟨lw_c9 26 rfl rfl, lw_c9 27 rfl rfl⟩
set_option maxRecDepth 20000 in
theorem mf_X12_write : xMf yX12_write cX12_write 3 (some .int) 0 := ⟨lw_c9 32 rfl rfl, cl_X12.1, cl_X12.2.1, cl_X12.2.2, by decide +kernel⟩
set_option maxRecDepth 20000 in
theorem mv_X12_write : xMv yX12_write := ⟨lw_c9 30 rfl rfl, lw_c9 31 rfl rfl⟩
set_option maxRecDepth 20000 in
theorem mf_X12_written : xMf yX12_written cX12_written 2 (some .int) 1 := ⟨lw_c9 36 rfl rfl, cl_X12.1, cl_X12.2.1, cl_X12.2.2, by decide +kernel⟩
set_option maxRecDepth 20000 in
theorem mv_X12_written : xMv yX12_written := ⟨lw_c9 34 rfl rfl, lw_c9 35 rfl rfl⟩
set_option maxRecDepth 20000 in
theorem mf_X12_makeSpells : xMf yX12_makeSpells cX12_makeSpells 4 none 0 := ⟨lw_c9 48 rfl rfl, cl_X12.1, cl_X12.2.1, cl_X12.2.2, by decide +kernel⟩
set_option maxRecDepth 20000 in
theorem mv_X12_makeSpells : xMv yX12_makeSpells := ⟨lw_c9 47 rfl rfl, lw_gp (List.mem_of_getElem? (i := 102) (by decide +kernel)) rfl⟩
set_option maxRecDepth 20000 in
theorem mf_X12_waysNow : xMf yX12_waysNow cX12_waysNow 6 (some .int) 0 := ⟨lw_c9 44 rfl rfl, cl_X12.1, cl_X12.2.1, cl_X12.2.2, by decide +kernel⟩
set_option maxRecDepth 20000 in
theorem mv_X12_waysNow : xMv yX12_waysNow := ⟨lw_c9 43 rfl rfl, lw_gp (List.mem_of_getElem? (i := 101) (by decide +kernel)) rfl⟩
set_option maxRecDepth 20000 in
theorem mf_X12_ways : xMf yX12_ways cX12_ways 1 (some .int) 0 := ⟨lw_c9 40 rfl rfl, cl_X12.1, cl_X12.2.1, cl_X12.2.2, by decide +kernel⟩
set_option maxRecDepth 20000 in
theorem mv_X12_ways : xMv yX12_ways := ⟨lw_c9 38 rfl rfl, lw_c9 39 rfl rfl⟩
set_option maxRecDepth 20000 in
theorem mf_X12_waysOn : xMf yX12_waysOn cX12_waysOn 6 (some .int) 2 := ⟨lw_c9 58 rfl rfl, cl_X12.1, cl_X12.2.1, cl_X12.2.2, by decide +kernel⟩
set_option maxRecDepth 20000 in
theorem mv_X12_waysOn : xMv yX12_waysOn := ⟨lw_c9 56 rfl rfl, lw_c9 57 rfl rfl⟩
set_option maxRecDepth 20000 in
theorem mf_X12_read : xMf yX12_read cX12_read 6 (some .int) 0 := ⟨lw_c9 69 rfl rfl, cl_X12.1, cl_X12.2.1, cl_X12.2.2, by decide +kernel⟩
set_option maxRecDepth 20000 in
theorem mv_X12_read : xMv yX12_read := ⟨lw_c9 67 rfl rfl, lw_c9 68 rfl rfl⟩
set_option maxRecDepth 20000 in
theorem mf_X12_readTerm : xMf yX12_readTerm cX12_readTerm 3 (some .int) 2 := ⟨lw_c9 73 rfl rfl, cl_X12.1, cl_X12.2.1, cl_X12.2.2, by decide +kernel⟩
set_option maxRecDepth 20000 in
theorem mv_X12_readTerm : xMv yX12_readTerm := ⟨lw_c9 71 rfl rfl, lw_c9 72 rfl rfl⟩
set_option maxRecDepth 20000 in
theorem mf_X12_spells : xMf yX12_spells cX12_spells 2 (some .int) 1 := ⟨lw_c9 77 rfl rfl, cl_X12.1, cl_X12.2.1, cl_X12.2.2, by decide +kernel⟩
set_option maxRecDepth 20000 in
theorem mv_X12_spells : xMv yX12_spells := ⟨lw_c9 75 rfl rfl, lw_c9 76 rfl rfl⟩
set_option maxRecDepth 20000 in
theorem mf_X12_beside : xMf yX12_beside cX12_beside 3 (some .int) 2 := ⟨lw_c8 228 rfl rfl, cl_X12.1, cl_X12.2.1, cl_X12.2.2, by decide +kernel⟩
set_option maxRecDepth 20000 in
theorem mv_X12_beside : xMv yX12_beside := ⟨lw_c8 227 rfl rfl, lw_gp (List.mem_of_getElem? (i := 92) (by decide +kernel)) rfl⟩
set_option maxRecDepth 20000 in
theorem mf_X12_percentOf : xMf yX12_percentOf cX12_percentOf 13 (some .int) 3 := ⟨lw_c8 224 rfl rfl, cl_X12.1, cl_X12.2.1, cl_X12.2.2, by decide +kernel⟩
set_option maxRecDepth 20000 in
theorem mv_X12_percentOf : xMv yX12_percentOf := ⟨lw_c8 223 rfl rfl, lw_gp (List.mem_of_getElem? (i := 91) (by decide +kernel)) rfl⟩
set_option maxRecDepth 20000 in
theorem mf_X12_groups : xMf yX12_groups cX12_groups 9 (some .int) 2 := ⟨lw_c8 219 rfl rfl, cl_X12.1, cl_X12.2.1, cl_X12.2.2, by decide +kernel⟩
set_option maxRecDepth 20000 in
theorem mv_X12_groups : xMv yX12_groups := ⟨lw_c8 218 rfl rfl, lw_gp (List.mem_of_getElem? (i := 90) (by decide +kernel)) rfl⟩
set_option maxRecDepth 20000 in
theorem mf_X12_group : xMf yX12_group cX12_group 2 (some .int) 0 := ⟨lw_c9 81 rfl rfl, cl_X12.1, cl_X12.2.1, cl_X12.2.2, by decide +kernel⟩
set_option maxRecDepth 20000 in
theorem mv_X12_group : xMv yX12_group := ⟨lw_c9 79 rfl rfl, lw_c9 80 rfl rfl⟩
set_option maxRecDepth 20000 in
theorem mf_X12_grouped : xMf yX12_grouped cX12_grouped 3 (some .int) 2 := ⟨lw_c9 85 rfl rfl, cl_X12.1, cl_X12.2.1, cl_X12.2.2, by decide +kernel⟩
set_option maxRecDepth 20000 in
theorem mv_X12_grouped : xMv yX12_grouped := ⟨lw_c9 83 rfl rfl, lw_c9 84 rfl rfl⟩
set_option maxRecDepth 20000 in
theorem mf_X12_clear : xMf yX12_clear cX12_clear 2 (some .int) 0 := ⟨lw_c9 89 rfl rfl, cl_X12.1, cl_X12.2.1, cl_X12.2.2, by decide +kernel⟩
set_option maxRecDepth 20000 in
theorem mv_X12_clear : xMv yX12_clear := ⟨lw_c9 87 rfl rfl, lw_c9 88 rfl rfl⟩
set_option maxRecDepth 20000 in
theorem mf_X12_say : xMf yX12_say cX12_say 2 (some .int) 1 := ⟨lw_c9 93 rfl rfl, cl_X12.1, cl_X12.2.1, cl_X12.2.2, by decide +kernel⟩
set_option maxRecDepth 20000 in
theorem mv_X12_say : xMv yX12_say := ⟨lw_c9 91 rfl rfl, lw_c9 92 rfl rfl⟩
set_option maxRecDepth 20000 in
theorem mf_X12_spellingComes : xMf yX12_spellingComes cX12_spellingComes 7 none 1 := ⟨lw_c8 215 rfl rfl, cl_X12.1, cl_X12.2.1, cl_X12.2.2, by decide +kernel⟩
set_option maxRecDepth 20000 in
theorem mv_X12_spellingComes : xMv yX12_spellingComes := ⟨lw_c8 214 rfl rfl, lw_gp (List.mem_of_getElem? (i := 89) (by decide +kernel)) rfl⟩
set_option maxRecDepth 20000 in
theorem mf_X12_makeFits : xMf yX12_makeFits cX12_makeFits 7 (some .int) 0 := ⟨lw_c9 101 rfl rfl, cl_X12.1, cl_X12.2.1, cl_X12.2.2, by decide +kernel⟩
set_option maxRecDepth 20000 in
theorem mv_X12_makeFits : xMv yX12_makeFits := ⟨lw_c9 100 rfl rfl, lw_gp (List.mem_of_getElem? (i := 105) (by decide +kernel)) rfl⟩
set_option maxRecDepth 20000 in
theorem mf_X12_fill : xMf yX12_fill cX12_fill 7 (some .int) 1 := ⟨lw_c9 97 rfl rfl, cl_X12.1, cl_X12.2.1, cl_X12.2.2, by decide +kernel⟩
set_option maxRecDepth 20000 in
theorem mv_X12_fill : xMv yX12_fill := ⟨lw_c9 95 rfl rfl, lw_c9 96 rfl rfl⟩
set_option maxRecDepth 20000 in
theorem mf_X12_filled : xMf yX12_filled cX12_filled 3 (some .int) 2 := ⟨lw_c9 105 rfl rfl, cl_X12.1, cl_X12.2.1, cl_X12.2.2, by decide +kernel⟩
set_option maxRecDepth 20000 in
theorem mv_X12_filled : xMv yX12_filled := ⟨lw_c9 103 rfl rfl, lw_c9 104 rfl rfl⟩
set_option maxRecDepth 20000 in
theorem mf_X12_fills : xMf yX12_fills cX12_fills 4 (some .int) 0 := ⟨lw_c9 109 rfl rfl, cl_X12.1, cl_X12.2.1, cl_X12.2.2, by decide +kernel⟩
set_option maxRecDepth 20000 in
theorem mv_X12_fills : xMv yX12_fills := ⟨lw_c9 107 rfl rfl, lw_c9 108 rfl rfl⟩
set_option maxRecDepth 20000 in
theorem mf_X12_judge : xMf yX12_judge cX12_judge 6 (some .int) 0 := ⟨lw_c9 113 rfl rfl, cl_X12.1, cl_X12.2.1, cl_X12.2.2, by decide +kernel⟩
set_option maxRecDepth 20000 in
theorem mv_X12_judge : xMv yX12_judge := ⟨lw_c9 111 rfl rfl, lw_c9 112 rfl rfl⟩
set_option maxRecDepth 20000 in
theorem mf_X12_isDay : xMf yX12_isDay cX12_isDay 1 (some .boolean) 1 := ⟨lw_c9 61 rfl rfl, cl_X12.1, cl_X12.2.1, cl_X12.2.2, by decide +kernel⟩
set_option maxRecDepth 20000 in
theorem mt_X12_isDay : Cond.static yX12_isDay ∈ lw_g := lw_c9 60 rfl rfl
set_option maxRecDepth 20000 in
theorem mf_X12_value : xMf yX12_value cX12_value 8 (some .int) 3 := ⟨lw_c9 118 rfl rfl, cl_X12.1, cl_X12.2.1, cl_X12.2.2, by decide +kernel⟩
set_option maxRecDepth 20000 in
theorem mv_X12_value : xMv yX12_value := ⟨lw_c9 116 rfl rfl, lw_c9 117 rfl rfl⟩
set_option maxRecDepth 20000 in
theorem mf_X12_valueAt : xMf yX12_valueAt cX12_valueAt 6 (some .int) 3 := ⟨lw_c9 65 rfl rfl, cl_X12.1, cl_X12.2.1, cl_X12.2.2, by decide +kernel⟩
set_option maxRecDepth 20000 in
theorem mv_X12_valueAt : xMv yX12_valueAt := ⟨lw_c9 64 rfl rfl, lw_gp (List.mem_of_getElem? (i := 104) (by decide +kernel)) rfl⟩
set_option maxRecDepth 20000 in
theorem mf_X12_valueOn : xMf yX12_valueOn cX12_valueOn 7 (some .int) 4 := ⟨lw_c9 122 rfl rfl, cl_X12.1, cl_X12.2.1, cl_X12.2.2, by decide +kernel⟩
set_option maxRecDepth 20000 in
theorem mv_X12_valueOn : xMv yX12_valueOn := ⟨lw_c9 120 rfl rfl, lw_c9 121 rfl rfl⟩
set_option maxRecDepth 20000 in
theorem mf_X12_count : xMf yX12_count cX12_count 2 (some .int) 1 := ⟨lw_c9 126 rfl rfl, cl_X12.1, cl_X12.2.1, cl_X12.2.2, by decide +kernel⟩
set_option maxRecDepth 20000 in
theorem mv_X12_count : xMv yX12_count := ⟨lw_c9 124 rfl rfl, lw_c9 125 rfl rfl⟩
set_option maxRecDepth 20000 in
theorem cl_J9 : Cond.initialized RJ9 ∈ lw_g ∧ RJ9 ≠ "java/lang/invoke/MethodHandle" ∧ RJ9 ≠ "java/lang/invoke/VarHandle" := ⟨lw_c1 20 rfl rfl, by decide +kernel, by decide +kernel⟩
set_option maxRecDepth 20000 in
theorem mf_J9_max_7cf53 : xMf yJ9_max_7cf53 cJ9_max_7cf53 2 (some .int) 2 := ⟨lw_c4 149 rfl rfl, cl_J9.1, cl_J9.2.1, cl_J9.2.2, by decide +kernel⟩
set_option maxRecDepth 20000 in
theorem mt_J9_max_7cf53 : Cond.static yJ9_max_7cf53 ∈ lw_g := lw_c4 148 rfl rfl
set_option maxRecDepth 20000 in
theorem mf_J9_min_7cf53 : xMf yJ9_min_7cf53 cJ9_min_7cf53 2 (some .int) 2 := ⟨lw_c5 73 rfl rfl, cl_J9.1, cl_J9.2.1, cl_J9.2.2, by decide +kernel⟩
set_option maxRecDepth 20000 in
theorem mt_J9_min_7cf53 : Cond.static yJ9_min_7cf53 ∈ lw_g := lw_c5 72 rfl rfl
set_option maxRecDepth 20000 in
theorem mf_J9_min_f86c9 : xMf yJ9_min_f86c9 cJ9_min_f86c9 4 (some .long) 2 := ⟨lw_c5 179 rfl rfl, cl_J9.1, cl_J9.2.1, cl_J9.2.2, by decide +kernel⟩
set_option maxRecDepth 20000 in
theorem mt_J9_min_f86c9 : Cond.static yJ9_min_f86c9 ∈ lw_g := lw_c5 178 rfl rfl
set_option maxRecDepth 20000 in
theorem cl_J0 : Cond.initialized RJ0 ∈ lw_g ∧ RJ0 ≠ "java/lang/invoke/MethodHandle" ∧ RJ0 ≠ "java/lang/invoke/VarHandle" := ⟨lw_c1 15 rfl rfl, by decide +kernel, by decide +kernel⟩
theorem pn_J0 : plainName RJ0 = true := by decide +kernel
set_option maxRecDepth 20000 in
theorem mf_J0_length_8abf5 : xMf yJ0_length_8abf5 cJ0_length_8abf5 1 (some .int) 0 := ⟨lw_c3 141 rfl rfl, cl_J0.1, cl_J0.2.1, cl_J0.2.2, by decide +kernel⟩
set_option maxRecDepth 20000 in
theorem mv_J0_length_8abf5 : xMv yJ0_length_8abf5 := ⟨lw_c3 139 rfl rfl, lw_c3 140 rfl rfl⟩
set_option maxRecDepth 20000 in
theorem mf_J0_charAt_5068e : xMf yJ0_charAt_5068e cJ0_charAt_5068e 2 (some .char) 1 := ⟨lw_c3 151 rfl rfl, cl_J0.1, cl_J0.2.1, cl_J0.2.2, by decide +kernel⟩
set_option maxRecDepth 20000 in
theorem mv_J0_charAt_5068e : xMv yJ0_charAt_5068e := ⟨lw_c3 149 rfl rfl, lw_c3 150 rfl rfl⟩
set_option maxRecDepth 20000 in
theorem mf_J0_coder_7d493 : xMf yJ0_coder_7d493 cJ0_coder_7d493 1 (some .byte) 0 := ⟨lw_c3 145 rfl rfl, cl_J0.1, cl_J0.2.1, cl_J0.2.2, by decide +kernel⟩
set_option maxRecDepth 20000 in
theorem mv_J0_coder_7d493 : xMv yJ0_coder_7d493 := ⟨lw_c3 143 rfl rfl, lw_c3 144 rfl rfl⟩
set_option maxRecDepth 20000 in
theorem mf_J0_isLatin1_aae02 : xMf yJ0_isLatin1_aae02 cJ0_isLatin1_aae02 1 (some .boolean) 0 := ⟨lw_c3 155 rfl rfl, cl_J0.1, cl_J0.2.1, cl_J0.2.2, by decide +kernel⟩
set_option maxRecDepth 20000 in
theorem mv_J0_isLatin1_aae02 : xMv yJ0_isLatin1_aae02 := ⟨lw_c3 153 rfl rfl, lw_c3 154 rfl rfl⟩
set_option maxRecDepth 20000 in
theorem mf_J0_checkIndex_df160 : xMf yJ0_checkIndex_df160 cJ0_checkIndex_df160 2 none 2 := ⟨lw_c3 161 rfl rfl, cl_J0.1, cl_J0.2.1, cl_J0.2.2, by decide +kernel⟩
set_option maxRecDepth 20000 in
theorem mt_J0_checkIndex_df160 : Cond.static yJ0_checkIndex_df160 ∈ lw_g := lw_c3 160 rfl rfl
set_option maxRecDepth 20000 in
theorem cl_J1 : Cond.initialized RJ1 ∈ lw_g ∧ RJ1 ≠ "java/lang/invoke/MethodHandle" ∧ RJ1 ≠ "java/lang/invoke/VarHandle" := ⟨lw_c1 16 rfl rfl, by decide +kernel, by decide +kernel⟩
theorem pn_J1 : plainName RJ1 = true := by decide +kernel
set_option maxRecDepth 20000 in
theorem mf_J1_charAt_3b067 : xMf yJ1_charAt_3b067 cJ1_charAt_3b067 2 (some .char) 2 := ⟨lw_c3 158 rfl rfl, cl_J1.1, cl_J1.2.1, cl_J1.2.2, by decide +kernel⟩
set_option maxRecDepth 20000 in
theorem mt_J1_charAt_3b067 : Cond.static yJ1_charAt_3b067 ∈ lw_g := lw_c3 157 rfl rfl
set_option maxRecDepth 20000 in
theorem cl_J2 : Cond.initialized RJ2 ∈ lw_g ∧ RJ2 ≠ "java/lang/invoke/MethodHandle" ∧ RJ2 ≠ "java/lang/invoke/VarHandle" := ⟨lw_c1 18 rfl rfl, by decide +kernel, by decide +kernel⟩
theorem pn_J2 : plainName RJ2 = true := by decide +kernel
set_option maxRecDepth 20000 in
theorem mf_J2_getChar_3b067 : xMf yJ2_getChar_3b067 cJ2_getChar_3b067 2 (some .char) 2 := ⟨lw_c3 179 rfl rfl, cl_J2.1, cl_J2.2.1, cl_J2.2.2, by decide +kernel⟩
set_option maxRecDepth 20000 in
theorem mt_J2_getChar_3b067 : Cond.static yJ2_getChar_3b067 ∈ lw_g := lw_c3 178 rfl rfl
set_option maxRecDepth 20000 in
theorem mf_J2_length_9d52b : xMf yJ2_length_9d52b cJ2_length_9d52b 1 (some .int) 1 := ⟨lw_c3 175 rfl rfl, cl_J2.1, cl_J2.2.1, cl_J2.2.2, by decide +kernel⟩
set_option maxRecDepth 20000 in
theorem mt_J2_length_9d52b : Cond.static yJ2_length_9d52b ∈ lw_g := lw_c3 174 rfl rfl
set_option maxRecDepth 20000 in
theorem mf_J2_charAt_3b067 : xMf yJ2_charAt_3b067 cJ2_charAt_3b067 2 (some .char) 2 := ⟨lw_c3 169 rfl rfl, cl_J2.1, cl_J2.2.1, cl_J2.2.2, by decide +kernel⟩
set_option maxRecDepth 20000 in
theorem mt_J2_charAt_3b067 : Cond.static yJ2_charAt_3b067 ∈ lw_g := lw_c3 168 rfl rfl
set_option maxRecDepth 20000 in
theorem mf_J2_checkIndex_2214a : xMf yJ2_checkIndex_2214a cJ2_checkIndex_2214a 2 none 2 := ⟨lw_c3 172 rfl rfl, cl_J2.1, cl_J2.2.1, cl_J2.2.2, by decide +kernel⟩
set_option maxRecDepth 20000 in
theorem mt_J2_checkIndex_2214a : Cond.static yJ2_checkIndex_2214a ∈ lw_g := lw_c3 171 rfl rfl
set_option maxRecDepth 20000 in
theorem cl_J7 : Cond.initialized RJ7 ∈ lw_g ∧ RJ7 ≠ "java/lang/invoke/MethodHandle" ∧ RJ7 ≠ "java/lang/invoke/VarHandle" := ⟨lw_c1 19 rfl rfl, by decide +kernel, by decide +kernel⟩
theorem pn_J7 : plainName RJ7 = true := by decide +kernel
set_option maxRecDepth 20000 in
theorem mf_J7_fill_53178 : xMf yJ7_fill_53178 cJ7_fill_53178 4 none 2 := ⟨lw_c4 33 rfl rfl, cl_J7.1, cl_J7.2.1, cl_J7.2.2, by decide +kernel⟩
set_option maxRecDepth 20000 in
theorem mt_J7_fill_53178 : Cond.static yJ7_fill_53178 ∈ lw_g := lw_c4 32 rfl rfl
set_option maxRecDepth 20000 in
theorem cl_J3 : Cond.initialized RJ3 ∈ lw_g ∧ RJ3 ≠ "java/lang/invoke/MethodHandle" ∧ RJ3 ≠ "java/lang/invoke/VarHandle" := ⟨lw_c1 17 rfl rfl, by decide +kernel, by decide +kernel⟩
theorem pn_J3 : plainName RJ3 = true := by decide +kernel
set_option maxRecDepth 20000 in
theorem mf_J3_checkIndex_8e157 : xMf yJ3_checkIndex_8e157 cJ3_checkIndex_8e157 3 (some .int) 3 := ⟨lw_c3 166 rfl rfl, cl_J3.1, cl_J3.2.1, cl_J3.2.2, by decide +kernel⟩
set_option maxRecDepth 20000 in
theorem mt_J3_checkIndex_8e157 : Cond.static yJ3_checkIndex_8e157 ∈ lw_g := lw_c3 165 rfl rfl
set_option maxRecDepth 20000 in
theorem kc_X11_383 : Cond.constant RX11 383 65536 ∈ lw_g := lw_c4 141 rfl rfl
set_option maxRecDepth 20000 in
theorem kc_X11_384 : Cond.constant RX11 384 65535 ∈ lw_g := lw_c4 164 rfl rfl
set_option maxRecDepth 20000 in
theorem kc_X7_118 : Cond.constant RX7 118 100001 ∈ lw_g := lw_c5 70 rfl rfl
set_option maxRecDepth 20000 in
theorem kc_X11_252 : Cond.constant RX11 252 100000 ∈ lw_g := lw_c5 78 rfl rfl
set_option maxRecDepth 20000 in
theorem kc_X2_89 : Cond.constant RX2 89 2147483647 ∈ lw_g := lw_c5 91 rfl rfl
set_option maxRecDepth 20000 in
theorem kc_X4_48 : Cond.constant RX4 48 2147483647 ∈ lw_g := lw_c6 97 rfl rfl
set_option maxRecDepth 20000 in
theorem kc_X12_468 : Cond.constant RX12 468 100000 ∈ lw_g := lw_c8 182 rfl rfl
set_option maxRecDepth 20000 in
theorem kc_X12_435 : Cond.constant RX12 435 1000000000 ∈ lw_g := lw_c8 195 rfl rfl
set_option maxRecDepth 20000 in
theorem kc_X12_491 : Cond.constant RX12 491 1000000001 ∈ lw_g := lw_c9 54 rfl rfl
set_option maxRecDepth 20000 in
theorem kl_X8_64 : Cond.constantLong RX8 64 32 ∈ lw_g := lw_c3 118 rfl rfl
set_option maxRecDepth 20000 in
theorem kl_X11_379 : Cond.constantLong RX11 379 64 ∈ lw_g := lw_c5 112 rfl rfl
set_option maxRecDepth 20000 in
theorem kl_X11_381 : Cond.constantLong RX11 381 63 ∈ lw_g := lw_c5 131 rfl rfl
set_option maxRecDepth 20000 in
theorem kl_X5_104 : Cond.constantLong RX5 104 1000000001 ∈ lw_g := lw_c5 176 rfl rfl
set_option maxRecDepth 20000 in
theorem kl_X5_112 : Cond.constantLong RX5 112 1000000000 ∈ lw_g := lw_c5 180 rfl rfl
set_option maxRecDepth 20000 in
theorem kl_X12_275 : Cond.constantLong RX12 275 32 ∈ lw_g := lw_c8 48 rfl rfl
set_option maxRecDepth 20000 in
theorem kl_X12_277 : Cond.constantLong RX12 277 97 ∈ lw_g := lw_c8 49 rfl rfl
set_option maxRecDepth 20000 in
theorem kl_X12_489 : Cond.constantLong RX12 489 1000000000 ∈ lw_g := lw_c9 53 rfl rfl
theorem xn_X11_9 : (RX11, 9, yX8_init, "ScribeBlocks") ∈ xnl := by decide +kernel
theorem xn_X11_46 : (RX11, 46, yX9_init, "ScribeBlocks") ∈ xnl := by decide +kernel
theorem xn_X11_96 : (RX11, 96, yX10_init, "ScribeBlocks") ∈ xnl := by decide +kernel
theorem xn_X1_100 : (RX1, 100, yX11_sizeOf, "ScribeBlocks") ∈ xnl := by decide +kernel
theorem xn_X1_127 : (RX1, 127, yX11_heightOf, "ScribeBlocks") ∈ xnl := by decide +kernel
theorem xn_X1_130 : (RX1, 130, yX11_widthOf, "ScribeBlocks") ∈ xnl := by decide +kernel
theorem xn_X1_133 : (RX1, 133, yX11_edgeOf, "ScribeBlocks") ∈ xnl := by decide +kernel
theorem xn_X7_71 : (RX7, 71, yX11_soundAt, "ScribeBlocks") ∈ xnl := by decide +kernel
theorem xn_X2_130 : (RX2, 130, yX11_withSign, "ScribeBlocks") ∈ xnl := by decide +kernel
theorem xn_X2_90 : (RX2, 90, yX11_signOf, "ScribeBlocks") ∈ xnl := by decide +kernel
theorem xn_X2_172 : (RX2, 172, yX7_coversBehind, "ScribeBlocks") ∈ xnl := by decide +kernel
def st_0 : List Int32 := [1, 24, 50, 1]
theorem xst_0 : xst[0]? = some ("ScribeBlocks$SignList", "UNTOLD", st_0) := rfl
def st_1 : List Int32 := [0, 8, 1, 0]
theorem xst_1 : xst[1]? = some ("ScribeBlocks$SignList", "LOWEST", st_1) := rfl
def st_2 : List Int32 := [9, 99, 100, 3]
theorem xst_2 : xst[2]? = some ("ScribeBlocks$SignList", "HIGHEST", st_2) := rfl
def st_3 : List Int32 := [1, 2, 2, 3, 3, 3, 3, 3, 3, 4, 4]
theorem xst_3 : xst[3]? = some ("ScribeBlocks$Grouper", "SIGNS_OF", st_3) := rfl
def st_4 : List Int32 := [0, 0, 1, 0, 1, 0, 0, 1, 1, 0, 1]
theorem xst_4 : xst[4]? = some ("ScribeBlocks$Grouper", "IS_OVER", st_4) := rfl
def st_5 : List Int32 := [1, 0, 0, 1, 1, 0, 1, 1, 0, 1, 1, 1, 1, 1, 1, 1, 2, 0, 2, 1, 0, 1, 2, 0, 2, 1, 0, 2, 2, 0, 2, 2, 0]
theorem xst_5 : xst[5]? = some ("ScribeBlocks$Grouper", "PARTS", st_5) := rfl
def slf (o : Nat) : List (Nat × Nat) := [(0, 0), (2, 8 * o + 1 - 6), (2, 8 * o + 2 - 6), (2, 8 * o + 3 - 6), (2, 8 * o + 4 - 6), (2, 8 * o + 5 - 6), (2, 8 * o + 6 - 6), (2, 8 * o + 7 - 6), (2, 8 * o + 8 - 6), (0, 0)]
def KX_f0 : List (Nat × Nat) := [(2, 19), (2, 1), (2, 2), (2, 21), (2, 23), (2, 33), (2, 38), (2, 40), (2, 46), (2, 57), (2, 67), (2, 73), (0, 0)]
def KX_f19 : List (Nat × Nat) := [(2, 20), (0, 0), (0, 0), (0, 0), (0, 0), (0, 0), (1, 0), (0, 0), (0, 0), (0, 0), (0, 0), (0, 0), (0, 0)]
def KX_f21 : List (Nat × Nat) := [(2, 1), (2, 22), (0, 0), (0, 0), (0, 0), (0, 0), (0, 0)]
def KX_f23 : List (Nat × Nat) := [(2, 1), (2, 21), (0, 0), (2, 24), (2, 25), (0, 0), (2, 26), (2, 27), (2, 28), (2, 29), (2, 30), (2, 31), (2, 32), (0, 0), (0, 0)]
def KX_f33 : List (Nat × Nat) := [(0, 0), (2, 34), (2, 35), (2, 36), (2, 37)]
def KX_f38 : List (Nat × Nat) := [(2, 33), (3, 0), (0, 0), (1, 0), (1, 0), (0, 0), (0, 0), (2, 39)]
def KX_f40 : List (Nat × Nat) := [(2, 1), (2, 41), (2, 42), (2, 43), (0, 0), (2, 44), (2, 45)]
def KX_f46 : List (Nat × Nat) := [(2, 1), (2, 38), (2, 40), (2, 47), (2, 48), (2, 49), (2, 50), (2, 51), (2, 52), (2, 53), (2, 54), (2, 55), (2, 56), (0, 0)]
def KX_f57 : List (Nat × Nat) := [(2, 1), (2, 33), (2, 38), (2, 58), (0, 0), (2, 59), (2, 60), (2, 61), (2, 62), (2, 63), (2, 64), (0, 0), (2, 65), (2, 66)]
def KX_f67 : List (Nat × Nat) := [(2, 46), (2, 68), (0, 0), (2, 69), (0, 0), (0, 0), (2, 70), (2, 71), (2, 72)]
def KX_f73 : List (Nat × Nat) := [(0, 0), (0, 0), (2, 74), (2, 75), (2, 76), (2, 77), (2, 78)]
def KX : List Lk := [.inl (11, KX_f0), .inl (6, slf 1), .inl (6, slf 2), .inr (1, 40), .inr (0, 40), .inr (0, 40), .inr (0, 40), .inr (0, 40), .inr (0, 40), .inr (1, 40), .inr (0, 4), .inr (1, 40), .inr (0, 40), .inr (0, 40), .inr (0, 40), .inr (0, 40), .inr (0, 40), .inr (1, 40), .inr (0, 4), .inl (8, KX_f19), .inr (2, 800), .inl (0, KX_f21), .inr (0, 240), .inl (1, KX_f23), .inr (0, 12), .inr (0, 12), .inr (0, 24), .inr (0, 24), .inr (0, 24), .inr (0, 24), .inr (0, 24), .inr (0, 24), .inr (0, 24), .inl (9, KX_f33), .inr (1, 40), .inr (0, 40), .inr (0, 40), .inr (1, 40), .inl (7, KX_f38), .inr (0, 384), .inl (3, KX_f40), .inr (0, 25), .inr (0, 25), .inr (0, 25), .inr (0, 24), .inr (0, 24), .inl (2, KX_f46), .inr (0, 40), .inr (0, 40), .inr (0, 40), .inr (1, 40), .inr (0, 520), .inr (1, 520), .inr (0, 13), .inr (1, 13), .inr (0, 12), .inr (0, 13), .inl (5, KX_f57), .inr (0, 24), .inr (0, 24), .inr (1, 25), .inr (0, 960), .inr (0, 25), .inr (0, 25), .inr (0, 25), .inr (0, 24), .inr (0, 24), .inl (4, KX_f67), .inr (0, 12), .inr (0, 1885), .inr (0, 12), .inr (0, 12), .inr (1, 12), .inl (10, KX_f73), .inr (0, 60), .inr (0, 60), .inr (0, 60), .inr (0, 60), .inr (0, 60)]
theorem KX_0 : KX[0]? = some (.inl (11, KX_f0)) := rfl
theorem KX_1 : KX[1]? = some (.inl (6, slf 1)) := rfl
theorem KX_2 : KX[2]? = some (.inl (6, slf 2)) := rfl
theorem KX_3 : KX[3]? = some (.inr (1, 40)) := rfl
theorem KX_4 : KX[4]? = some (.inr (0, 40)) := rfl
theorem KX_5 : KX[5]? = some (.inr (0, 40)) := rfl
theorem KX_6 : KX[6]? = some (.inr (0, 40)) := rfl
theorem KX_7 : KX[7]? = some (.inr (0, 40)) := rfl
theorem KX_8 : KX[8]? = some (.inr (0, 40)) := rfl
theorem KX_9 : KX[9]? = some (.inr (1, 40)) := rfl
theorem KX_10 : KX[10]? = some (.inr (0, 4)) := rfl
theorem KX_11 : KX[11]? = some (.inr (1, 40)) := rfl
theorem KX_12 : KX[12]? = some (.inr (0, 40)) := rfl
theorem KX_13 : KX[13]? = some (.inr (0, 40)) := rfl
theorem KX_14 : KX[14]? = some (.inr (0, 40)) := rfl
theorem KX_15 : KX[15]? = some (.inr (0, 40)) := rfl
theorem KX_16 : KX[16]? = some (.inr (0, 40)) := rfl
theorem KX_17 : KX[17]? = some (.inr (1, 40)) := rfl
theorem KX_18 : KX[18]? = some (.inr (0, 4)) := rfl
theorem KX_19 : KX[19]? = some (.inl (8, KX_f19)) := rfl
theorem KX_20 : KX[20]? = some (.inr (2, 800)) := rfl
theorem KX_21 : KX[21]? = some (.inl (0, KX_f21)) := rfl
theorem KX_22 : KX[22]? = some (.inr (0, 240)) := rfl
theorem KX_23 : KX[23]? = some (.inl (1, KX_f23)) := rfl
theorem KX_24 : KX[24]? = some (.inr (0, 12)) := rfl
theorem KX_25 : KX[25]? = some (.inr (0, 12)) := rfl
theorem KX_26 : KX[26]? = some (.inr (0, 24)) := rfl
theorem KX_27 : KX[27]? = some (.inr (0, 24)) := rfl
theorem KX_28 : KX[28]? = some (.inr (0, 24)) := rfl
theorem KX_29 : KX[29]? = some (.inr (0, 24)) := rfl
theorem KX_30 : KX[30]? = some (.inr (0, 24)) := rfl
theorem KX_31 : KX[31]? = some (.inr (0, 24)) := rfl
theorem KX_32 : KX[32]? = some (.inr (0, 24)) := rfl
theorem KX_33 : KX[33]? = some (.inl (9, KX_f33)) := rfl
theorem KX_34 : KX[34]? = some (.inr (1, 40)) := rfl
theorem KX_35 : KX[35]? = some (.inr (0, 40)) := rfl
theorem KX_36 : KX[36]? = some (.inr (0, 40)) := rfl
theorem KX_37 : KX[37]? = some (.inr (1, 40)) := rfl
theorem KX_38 : KX[38]? = some (.inl (7, KX_f38)) := rfl
theorem KX_39 : KX[39]? = some (.inr (0, 384)) := rfl
theorem KX_40 : KX[40]? = some (.inl (3, KX_f40)) := rfl
theorem KX_41 : KX[41]? = some (.inr (0, 25)) := rfl
theorem KX_42 : KX[42]? = some (.inr (0, 25)) := rfl
theorem KX_43 : KX[43]? = some (.inr (0, 25)) := rfl
theorem KX_44 : KX[44]? = some (.inr (0, 24)) := rfl
theorem KX_45 : KX[45]? = some (.inr (0, 24)) := rfl
theorem KX_46 : KX[46]? = some (.inl (2, KX_f46)) := rfl
theorem KX_47 : KX[47]? = some (.inr (0, 40)) := rfl
theorem KX_48 : KX[48]? = some (.inr (0, 40)) := rfl
theorem KX_49 : KX[49]? = some (.inr (0, 40)) := rfl
theorem KX_50 : KX[50]? = some (.inr (1, 40)) := rfl
theorem KX_51 : KX[51]? = some (.inr (0, 520)) := rfl
theorem KX_52 : KX[52]? = some (.inr (1, 520)) := rfl
theorem KX_53 : KX[53]? = some (.inr (0, 13)) := rfl
theorem KX_54 : KX[54]? = some (.inr (1, 13)) := rfl
theorem KX_55 : KX[55]? = some (.inr (0, 12)) := rfl
theorem KX_56 : KX[56]? = some (.inr (0, 13)) := rfl
theorem KX_57 : KX[57]? = some (.inl (5, KX_f57)) := rfl
theorem KX_58 : KX[58]? = some (.inr (0, 24)) := rfl
theorem KX_59 : KX[59]? = some (.inr (0, 24)) := rfl
theorem KX_60 : KX[60]? = some (.inr (1, 25)) := rfl
theorem KX_61 : KX[61]? = some (.inr (0, 960)) := rfl
theorem KX_62 : KX[62]? = some (.inr (0, 25)) := rfl
theorem KX_63 : KX[63]? = some (.inr (0, 25)) := rfl
theorem KX_64 : KX[64]? = some (.inr (0, 25)) := rfl
theorem KX_65 : KX[65]? = some (.inr (0, 24)) := rfl
theorem KX_66 : KX[66]? = some (.inr (0, 24)) := rfl
theorem KX_67 : KX[67]? = some (.inl (4, KX_f67)) := rfl
theorem KX_68 : KX[68]? = some (.inr (0, 12)) := rfl
theorem KX_69 : KX[69]? = some (.inr (0, 1885)) := rfl
theorem KX_70 : KX[70]? = some (.inr (0, 12)) := rfl
theorem KX_71 : KX[71]? = some (.inr (0, 12)) := rfl
theorem KX_72 : KX[72]? = some (.inr (1, 12)) := rfl
theorem KX_73 : KX[73]? = some (.inl (10, KX_f73)) := rfl
theorem KX_74 : KX[74]? = some (.inr (0, 60)) := rfl
theorem KX_75 : KX[75]? = some (.inr (0, 60)) := rfl
theorem KX_76 : KX[76]? = some (.inr (0, 60)) := rfl
theorem KX_77 : KX[77]? = some (.inr (0, 60)) := rfl
theorem KX_78 : KX[78]? = some (.inr (0, 60)) := rfl
def KM_f0 : List (Nat × Nat) := [(2, 1), (0, 0), (0, 0), (0, 0), (0, 0), (0, 0), (0, 0), (0, 0), (0, 0), (0, 0), (1, 0), (0, 0), (2, 2), (2, 3), (2, 4), (2, 5), (2, 6), (2, 7), (2, 8), (2, 9), (2, 10), (0, 0), (2, 11), (2, 12), (2, 13), (2, 14), (2, 15), (2, 16), (2, 17), (2, 18), (2, 19), (0, 0), (0, 0), (0, 0), (0, 0), (0, 0), (0, 0), (2, 20), (2, 21), (2, 22), (2, 23), (2, 24), (2, 25), (2, 26), (2, 27), (2, 28), (0, 0), (2, 29), (0, 0), (0, 0), (2, 30), (2, 31), (2, 32), (2, 33), (2, 34), (2, 35), (2, 36), (2, 37), (2, 38), (2, 39), (0, 0), (0, 0), (0, 0), (0, 0), (2, 40), (2, 41), (2, 42), (2, 43), (0, 0), (0, 0), (2, 44), (2, 45), (2, 46), (2, 47), (0, 0), (2, 48), (2, 49), (2, 50), (2, 51), (2, 52), (2, 53), (2, 54), (0, 0), (2, 55), (2, 56), (0, 0), (0, 0), (2, 57), (2, 58), (2, 59), (2, 60), (0, 0), (2, 61), (2, 62), (2, 63), (2, 64), (0, 0), (0, 0), (2, 65), (2, 66), (2, 67), (2, 68), (2, 69)]
def KM : List Lk := [.inl (12, KM_f0), .inr (2, 800), .inr (0, 8), .inr (0, 2), .inr (1, 80), .inr (0, 80), .inr (0, 80), .inr (0, 80), .inr (0, 80), .inr (0, 240), .inr (1, 80), .inr (0, 400), .inr (0, 400), .inr (0, 400), .inr (0, 400), .inr (0, 400), .inr (0, 400), .inr (0, 400), .inr (0, 400), .inr (0, 400), .inr (0, 12), .inr (0, 12), .inr (0, 12), .inr (0, 24), .inr (0, 24), .inr (0, 24), .inr (0, 24), .inr (0, 24), .inr (0, 24), .inr (0, 12), .inr (1, 40), .inr (0, 40), .inr (0, 320), .inr (1, 40), .inr (0, 40), .inr (0, 40), .inr (0, 120), .inr (0, 234), .inr (0, 9), .inr (0, 12), .inr (0, 9), .inr (0, 9), .inr (0, 9), .inr (0, 10), .inr (0, 24), .inr (0, 24), .inr (0, 25), .inr (0, 25), .inr (0, 24), .inr (0, 24), .inr (3, 23040), .inr (0, 25), .inr (0, 25), .inr (0, 25), .inr (0, 25), .inr (0, 24), .inr (0, 24), .inr (0, 12), .inr (0, 156), .inr (0, 156), .inr (0, 1872), .inr (0, 1885), .inr (0, 12), .inr (0, 12), .inr (0, 144), .inr (0, 60), .inr (0, 60), .inr (0, 60), .inr (0, 60), .inr (0, 180)]
theorem KM_0 : KM[0]? = some (.inl (12, KM_f0)) := rfl
theorem KM_1 : KM[1]? = some (.inr (2, 800)) := rfl
theorem KM_2 : KM[2]? = some (.inr (0, 8)) := rfl
theorem KM_3 : KM[3]? = some (.inr (0, 2)) := rfl
theorem KM_4 : KM[4]? = some (.inr (1, 80)) := rfl
theorem KM_5 : KM[5]? = some (.inr (0, 80)) := rfl
theorem KM_6 : KM[6]? = some (.inr (0, 80)) := rfl
theorem KM_7 : KM[7]? = some (.inr (0, 80)) := rfl
theorem KM_8 : KM[8]? = some (.inr (0, 80)) := rfl
theorem KM_9 : KM[9]? = some (.inr (0, 240)) := rfl
theorem KM_10 : KM[10]? = some (.inr (1, 80)) := rfl
theorem KM_11 : KM[11]? = some (.inr (0, 400)) := rfl
theorem KM_12 : KM[12]? = some (.inr (0, 400)) := rfl
theorem KM_13 : KM[13]? = some (.inr (0, 400)) := rfl
theorem KM_14 : KM[14]? = some (.inr (0, 400)) := rfl
theorem KM_15 : KM[15]? = some (.inr (0, 400)) := rfl
theorem KM_16 : KM[16]? = some (.inr (0, 400)) := rfl
theorem KM_17 : KM[17]? = some (.inr (0, 400)) := rfl
theorem KM_18 : KM[18]? = some (.inr (0, 400)) := rfl
theorem KM_19 : KM[19]? = some (.inr (0, 400)) := rfl
theorem KM_20 : KM[20]? = some (.inr (0, 12)) := rfl
theorem KM_21 : KM[21]? = some (.inr (0, 12)) := rfl
theorem KM_22 : KM[22]? = some (.inr (0, 12)) := rfl
theorem KM_23 : KM[23]? = some (.inr (0, 24)) := rfl
theorem KM_24 : KM[24]? = some (.inr (0, 24)) := rfl
theorem KM_25 : KM[25]? = some (.inr (0, 24)) := rfl
theorem KM_26 : KM[26]? = some (.inr (0, 24)) := rfl
theorem KM_27 : KM[27]? = some (.inr (0, 24)) := rfl
theorem KM_28 : KM[28]? = some (.inr (0, 24)) := rfl
theorem KM_29 : KM[29]? = some (.inr (0, 12)) := rfl
theorem KM_30 : KM[30]? = some (.inr (1, 40)) := rfl
theorem KM_31 : KM[31]? = some (.inr (0, 40)) := rfl
theorem KM_32 : KM[32]? = some (.inr (0, 320)) := rfl
theorem KM_33 : KM[33]? = some (.inr (1, 40)) := rfl
theorem KM_34 : KM[34]? = some (.inr (0, 40)) := rfl
theorem KM_35 : KM[35]? = some (.inr (0, 40)) := rfl
theorem KM_36 : KM[36]? = some (.inr (0, 120)) := rfl
theorem KM_37 : KM[37]? = some (.inr (0, 234)) := rfl
theorem KM_38 : KM[38]? = some (.inr (0, 9)) := rfl
theorem KM_39 : KM[39]? = some (.inr (0, 12)) := rfl
theorem KM_40 : KM[40]? = some (.inr (0, 9)) := rfl
theorem KM_41 : KM[41]? = some (.inr (0, 9)) := rfl
theorem KM_42 : KM[42]? = some (.inr (0, 9)) := rfl
theorem KM_43 : KM[43]? = some (.inr (0, 10)) := rfl
theorem KM_44 : KM[44]? = some (.inr (0, 24)) := rfl
theorem KM_45 : KM[45]? = some (.inr (0, 24)) := rfl
theorem KM_46 : KM[46]? = some (.inr (0, 25)) := rfl
theorem KM_47 : KM[47]? = some (.inr (0, 25)) := rfl
theorem KM_48 : KM[48]? = some (.inr (0, 24)) := rfl
theorem KM_49 : KM[49]? = some (.inr (0, 24)) := rfl
theorem KM_50 : KM[50]? = some (.inr (3, 23040)) := rfl
theorem KM_51 : KM[51]? = some (.inr (0, 25)) := rfl
theorem KM_52 : KM[52]? = some (.inr (0, 25)) := rfl
theorem KM_53 : KM[53]? = some (.inr (0, 25)) := rfl
theorem KM_54 : KM[54]? = some (.inr (0, 25)) := rfl
theorem KM_55 : KM[55]? = some (.inr (0, 24)) := rfl
theorem KM_56 : KM[56]? = some (.inr (0, 24)) := rfl
theorem KM_57 : KM[57]? = some (.inr (0, 12)) := rfl
theorem KM_58 : KM[58]? = some (.inr (0, 156)) := rfl
theorem KM_59 : KM[59]? = some (.inr (0, 156)) := rfl
theorem KM_60 : KM[60]? = some (.inr (0, 1872)) := rfl
theorem KM_61 : KM[61]? = some (.inr (0, 1885)) := rfl
theorem KM_62 : KM[62]? = some (.inr (0, 12)) := rfl
theorem KM_63 : KM[63]? = some (.inr (0, 12)) := rfl
theorem KM_64 : KM[64]? = some (.inr (0, 144)) := rfl
theorem KM_65 : KM[65]? = some (.inr (0, 60)) := rfl
theorem KM_66 : KM[66]? = some (.inr (0, 60)) := rfl
theorem KM_67 : KM[67]? = some (.inr (0, 60)) := rfl
theorem KM_68 : KM[68]? = some (.inr (0, 60)) := rfl
theorem KM_69 : KM[69]? = some (.inr (0, 180)) := rfl
theorem xok_of {K : List Lk} (h : K.length ≤ 1000) (h2 : K.all (fun k => decide (xfl k ≤ 200)) = true) : xok K := ⟨h, fun i a hi => by
  have := List.all_eq_true.mp h2 _ (List.mem_of_getElem? hi)
  exact of_decide_eq_true this⟩
theorem KX_ok : xok KX := xok_of (by decide) (by decide +kernel)
theorem KM_ok : xok KM := xok_of (by decide) (by decide +kernel)
theorem KX_sl {o : Nat} (ho : o = 1 ∨ o = 2) : KX[o]? = some (.inl (6, slf o)) := by rcases ho with rfl | rfl <;> rfl
theorem KX_sl_1 {o : Nat} (ho : o = 1 ∨ o = 2) : KX[8 * o + 1 - 6]? = some (.inr (1, 40)) := by rcases ho with rfl | rfl <;> rfl
theorem KX_sl_2 {o : Nat} (ho : o = 1 ∨ o = 2) : KX[8 * o + 2 - 6]? = some (.inr (0, 40)) := by rcases ho with rfl | rfl <;> rfl
theorem KX_sl_3 {o : Nat} (ho : o = 1 ∨ o = 2) : KX[8 * o + 3 - 6]? = some (.inr (0, 40)) := by rcases ho with rfl | rfl <;> rfl
theorem KX_sl_4 {o : Nat} (ho : o = 1 ∨ o = 2) : KX[8 * o + 4 - 6]? = some (.inr (0, 40)) := by rcases ho with rfl | rfl <;> rfl
theorem KX_sl_5 {o : Nat} (ho : o = 1 ∨ o = 2) : KX[8 * o + 5 - 6]? = some (.inr (0, 40)) := by rcases ho with rfl | rfl <;> rfl
theorem KX_sl_6 {o : Nat} (ho : o = 1 ∨ o = 2) : KX[8 * o + 6 - 6]? = some (.inr (0, 40)) := by rcases ho with rfl | rfl <;> rfl
theorem KX_sl_7 {o : Nat} (ho : o = 1 ∨ o = 2) : KX[8 * o + 7 - 6]? = some (.inr (1, 40)) := by rcases ho with rfl | rfl <;> rfl
theorem KX_sl_8 {o : Nat} (ho : o = 1 ∨ o = 2) : KX[8 * o + 8 - 6]? = some (.inr (0, 4)) := by rcases ho with rfl | rfl <;> rfl
