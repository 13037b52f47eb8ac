theorem lf_X0_9 : Cond.fieldLink RX0 9 (TX0 0).1 (TX0 0).2.1 (TX0 0).2.2.1 ∈ gw := gw_t1 69 rfl rfl
theorem lm_X0_25 : Cond.methodLink RX0 25 arraycopyName ∈ gw := gw_t4 181 rfl rfl
theorem ws_copy : Cond.static arraycopyName ∈ gw := gw_t3 137 rfl rfl
theorem wn_copy : Cond.native arraycopyName ∈ gw := gw_t3 138 rfl rfl
theorem wi_sys : Cond.initialized "java/lang/System" ∈ gw := gw_t1 21 rfl rfl
theorem lf_X0_15 : Cond.fieldLink RX0 15 (TX0 1).1 (TX0 1).2.1 (TX0 1).2.2.1 ∈ gw := gw_t1 72 rfl rfl
theorem lf_X0_18 : Cond.fieldLink RX0 18 (TX0 2).1 (TX0 2).2.1 (TX0 2).2.2.1 ∈ gw := gw_t1 75 rfl rfl
theorem lf_X0_21 : Cond.fieldLink RX0 21 (TX0 3).1 (TX0 3).2.1 (TX0 3).2.2.1 ∈ gw := gw_t1 78 rfl rfl
theorem lf_X0_31 : Cond.fieldLink RX0 31 (TX0 4).1 (TX0 4).2.1 (TX0 4).2.2.1 ∈ gw := gw_t1 81 rfl rfl
theorem lm_X0_34 : Cond.methodLink RX0 34 yX0_seatOf ∈ gw := gw_t2 146 rfl rfl
theorem yk_X0_seatOf : YV yX0_seatOf cX0_seatOf 3 (some .int) 1 := ⟨gw_t2 134 rfl rfl, gw_t2 132 rfl rfl, gw_t2 133 rfl rfl, gw_t1 3 rfl rfl, by decide +kernel⟩
theorem lm_X0_38 : Cond.methodLink RX0 38 yX2_has ∈ gw := gw_t3 201 rfl rfl
theorem lf_X2_24 : Cond.fieldLink RX2 24 (TX2 4).1 (TX2 4).2.1 (TX2 4).2.2.1 ∈ gw := gw_t1 49 rfl rfl
theorem yk_X2_has : YV yX2_has cX2_has 2 (some .boolean) 1 := ⟨gw_t2 130 rfl rfl, gw_t2 128 rfl rfl, gw_t2 129 rfl rfl, gw_t1 2 rfl rfl, by decide +kernel⟩
theorem lf_X0_44 : Cond.fieldLink RX0 44 (TX2 0).1 (TX2 0).2.1 (TX2 0).2.2.1 ∈ gw := gw_t1 39 rfl rfl
theorem lf_X2_9 : Cond.fieldLink RX2 9 (TX2 0).1 (TX2 0).2.1 (TX2 0).2.2.1 ∈ gw := gw_t1 37 rfl rfl
theorem lf_X2_15 : Cond.fieldLink RX2 15 (TX2 1).1 (TX2 1).2.1 (TX2 1).2.2.1 ∈ gw := gw_t1 40 rfl rfl
theorem lf_X2_18 : Cond.fieldLink RX2 18 (TX2 2).1 (TX2 2).2.1 (TX2 2).2.2.1 ∈ gw := gw_t1 43 rfl rfl
theorem lf_X2_21 : Cond.fieldLink RX2 21 (TX2 3).1 (TX2 3).2.1 (TX2 3).2.2.1 ∈ gw := gw_t1 46 rfl rfl
theorem lm_X3_9 : Cond.methodLink RX3 9 yX3_latePull ∈ gw := gw_t2 165 rfl rfl
theorem yk_X3_latePull : YS yX3_latePull cX3_latePull 2 (some .int) 2 := ⟨gw_t2 167 rfl rfl, gw_t2 166 rfl rfl, gw_t1 13 rfl rfl, by decide +kernel⟩
theorem lm_X3_13 : Cond.methodLink RX3 13 Lib.Math.max.name ∈ gw := gw_t2 168 rfl rfl
theorem lf_X5_15 : Cond.fieldLink RX5 15 (TX5 1).1 (TX5 1).2.1 (TX5 1).2.2.1 ∈ gw := gw_t2 36 rfl rfl
theorem lf_X5_11 : Cond.fieldLink RX5 11 (TX5 0).1 (TX5 0).2.1 (TX5 0).2.2.1 ∈ gw := gw_t2 35 rfl rfl
theorem lm_X5_19 : Cond.methodLink RX5 19 arraycopyName ∈ gw := gw_t4 131 rfl rfl
theorem lm_X5_25 : Cond.methodLink RX5 25 yX5_met ∈ gw := gw_t4 143 rfl rfl
theorem lm_X5_29 : Cond.methodLink RX5 29 yX5_timeOf ∈ gw := gw_t4 147 rfl rfl
theorem yk_X5_timeOf : YV yX5_timeOf cX5_timeOf 3 (some .int) 2 := ⟨gw_t4 150 rfl rfl, gw_t4 149 rfl rfl, gw_s 22 rfl, gw_t1 10 rfl rfl, by decide +kernel⟩
theorem yk_X5_met : YV yX5_met cX5_met 4 (some .boolean) 3 := ⟨gw_t4 146 rfl rfl, gw_t4 145 rfl rfl, gw_s 21 rfl, gw_t1 10 rfl rfl, by decide +kernel⟩
theorem lm_X5_33 : Cond.methodLink RX5 33 yX5_isFirst ∈ gw := gw_t4 169 rfl rfl
theorem yk_X5_isFirst : YV yX5_isFirst cX5_isFirst 4 (some .boolean) 2 := ⟨gw_t4 172 rfl rfl, gw_t4 171 rfl rfl, gw_s 23 rfl, gw_t1 10 rfl rfl, by decide +kernel⟩
theorem lf_X6_9 : Cond.fieldLink RX6 9 (TX6 0).1 (TX6 0).2.1 (TX6 0).2.2.1 ∈ gw := gw_t1 147 rfl rfl
theorem lm_X6_17 : Cond.methodLink RX6 17 yX6_isOperand ∈ gw := gw_t3 223 rfl rfl
theorem yk_X6_isOperand : YS yX6_isOperand cX6_isOperand 1 (some .boolean) 1 := ⟨gw_t3 119 rfl rfl, gw_t3 118 rfl rfl, gw_t1 6 rfl rfl, by decide +kernel⟩
theorem lm_X6_21 : Cond.methodLink RX6 21 yX6_joined ∈ gw := gw_t3 224 rfl rfl
theorem yk_X6_joined : YS yX6_joined cX6_joined 4 (some .int) 3 := ⟨gw_t3 226 rfl rfl, gw_t3 225 rfl rfl, gw_t1 6 rfl rfl, by decide +kernel⟩
theorem lf_X6_13 : Cond.fieldLink RX6 13 (TX6 1).1 (TX6 1).2.1 (TX6 1).2.2.1 ∈ gw := gw_t1 148 rfl rfl
theorem lf_X7_9 : Cond.fieldLink RX7 9 (TX7 0).1 (TX7 0).2.1 (TX7 0).2.2.1 ∈ gw := gw_t2 50 rfl rfl
theorem lf_X7_13 : Cond.fieldLink RX7 13 (TX7 1).1 (TX7 1).2.1 (TX7 1).2.2.1 ∈ gw := gw_t2 52 rfl rfl
theorem lf_X7_18 : Cond.fieldLink RX7 18 (TX7 2).1 (TX7 2).2.1 (TX7 2).2.2.1 ∈ gw := gw_t2 54 rfl rfl
theorem lm_X7_21 : Cond.methodLink RX7 21 yJ7_fill_53178 ∈ gw := gw_t4 206 rfl rfl
theorem yk_J7_fill_53178 : YS yJ7_fill_53178 cJ7_fill_53178 4 none 2 := ⟨gw_t4 75 rfl rfl, gw_t4 74 rfl rfl, gw_t1 20 rfl rfl, by decide +kernel⟩
theorem lf_X8_15 : Cond.fieldLink RX8 15 (TX8 1).1 (TX8 1).2.1 (TX8 1).2.2.1 ∈ gw := gw_t1 102 rfl rfl
theorem lf_X8_9 : Cond.fieldLink RX8 9 (TX8 0).1 (TX8 0).2.1 (TX8 0).2.2.1 ∈ gw := gw_t1 101 rfl rfl
theorem lf_X10_29 : Cond.fieldLink RX10 29 (TX10 4).1 (TX10 4).2.1 (TX10 4).2.2.1 ∈ gw := gw_t2 7 rfl rfl
theorem lf_X10_11 : Cond.fieldLink RX10 11 (TX10 0).1 (TX10 0).2.1 (TX10 0).2.2.1 ∈ gw := gw_t2 3 rfl rfl
theorem lf_X10_15 : Cond.fieldLink RX10 15 (TX10 1).1 (TX10 1).2.1 (TX10 1).2.2.1 ∈ gw := gw_t2 4 rfl rfl
theorem lf_X10_18 : Cond.fieldLink RX10 18 (TX10 2).1 (TX10 2).2.1 (TX10 2).2.2.1 ∈ gw := gw_t2 5 rfl rfl
theorem lf_X10_21 : Cond.fieldLink RX10 21 (TX10 3).1 (TX10 3).2.1 (TX10 3).2.2.1 ∈ gw := gw_t2 6 rfl rfl
theorem lf_X10_26 : Cond.fieldLink RX10 26 (TX10 5).1 (TX10 5).2.1 (TX10 5).2.2.1 ∈ gw := gw_t2 9 rfl rfl
theorem lm_X10_33 : Cond.methodLink RX10 33 yX10_unbind ∈ gw := gw_t4 69 rfl rfl
theorem lc_X10_79 : Cond.constant RX10 79 999999 ∈ gw := gw_t4 72 rfl rfl
theorem lm_X10_80 : Cond.methodLink RX10 80 yJ7_fill_53178 ∈ gw := gw_t4 73 rfl rfl
theorem lm_X10_45 : Cond.methodLink RX10 45 yX10_cellOf ∈ gw := gw_t4 76 rfl rfl
theorem yk_X10_cellOf : YS yX10_cellOf cX10_cellOf 2 (some .int) 2 := ⟨gw_t4 78 rfl rfl, gw_t4 77 rfl rfl, gw_t1 9 rfl rfl, by decide +kernel⟩
theorem yk_X10_unbind : YS yX10_unbind cX10_unbind 2 none 1 := ⟨gw_t4 71 rfl rfl, gw_t4 70 rfl rfl, gw_t1 9 rfl rfl, by decide +kernel⟩
theorem lm_X10_37 : Cond.methodLink RX10 37 yX10_isTold ∈ gw := gw_t4 79 rfl rfl
theorem yk_X10_isTold : YS yX10_isTold cX10_isTold 2 (some .boolean) 2 := ⟨gw_t4 81 rfl rfl, gw_t4 80 rfl rfl, gw_t1 9 rfl rfl, by decide +kernel⟩
theorem lm_X10_41 : Cond.methodLink RX10 41 yX10_keepOne ∈ gw := gw_t4 82 rfl rfl
theorem lm_X10_75 : Cond.methodLink RX10 75 yX10_keep ∈ gw := gw_t4 86 rfl rfl
theorem lm_X10_86 : Cond.methodLink RX10 86 yX10_tighten ∈ gw := gw_t4 89 rfl rfl
theorem yk_X10_tighten : YS yX10_tighten cX10_tighten 6 none 4 := ⟨gw_t4 91 rfl rfl, gw_t4 90 rfl rfl, gw_t1 9 rfl rfl, by decide +kernel⟩
theorem yk_X10_keep : YS yX10_keep cX10_keep 7 (some .boolean) 4 := ⟨gw_t4 88 rfl rfl, gw_t4 87 rfl rfl, gw_t1 9 rfl rfl, by decide +kernel⟩
theorem yk_X10_keepOne : YV yX10_keepOne cX10_keepOne 3 (some .boolean) 2 := ⟨gw_t4 85 rfl rfl, gw_t4 84 rfl rfl, gw_s 18 rfl, gw_t1 9 rfl rfl, by decide +kernel⟩
theorem lf_X10_49 : Cond.fieldLink RX10 49 (TX10 6).1 (TX10 6).2.1 (TX10 6).2.2.1 ∈ gw := gw_t2 10 rfl rfl
theorem lf_X10_52 : Cond.fieldLink RX10 52 (TX10 7).1 (TX10 7).2.1 (TX10 7).2.2.1 ∈ gw := gw_t2 11 rfl rfl
theorem lm_X10_55 : Cond.methodLink RX10 55 yX10_seek ∈ gw := gw_t4 105 rfl rfl
theorem lm_X10_59 : Cond.methodLink RX10 59 yJ6_bitCount_0f7a4 ∈ gw := gw_t4 109 rfl rfl
theorem lc_J6_265 : Cond.constant RJ6 265 1431655765 ∈ gw := gw_t4 33 rfl rfl
theorem lc_J6_266 : Cond.constant RJ6 266 858993459 ∈ gw := gw_t4 34 rfl rfl
theorem lc_J6_267 : Cond.constant RJ6 267 252645135 ∈ gw := gw_t4 35 rfl rfl
theorem yk_J6_bitCount_0f7a4 : YS yJ6_bitCount_0f7a4 cJ6_bitCount_0f7a4 1 (some .int) 1 := ⟨gw_t4 32 rfl rfl, gw_t4 31 rfl rfl, gw_t1 22 rfl rfl, by decide +kernel⟩
theorem lm_X10_65 : Cond.methodLink RX10 65 yX10_takeOver ∈ gw := gw_t4 110 rfl rfl
theorem lm_X10_69 : Cond.methodLink RX10 69 arraycopyName ∈ gw := gw_t4 114 rfl rfl
theorem yk_X10_takeOver : YV yX10_takeOver cX10_takeOver 2 none 1 := ⟨gw_t4 113 rfl rfl, gw_t4 112 rfl rfl, gw_s 20 rfl, gw_t1 9 rfl rfl, by decide +kernel⟩
theorem yk_X10_seek : YV yX10_seek cX10_seek 4 none 3 := ⟨gw_t4 108 rfl rfl, gw_t4 107 rfl rfl, gw_s 19 rfl, gw_t1 9 rfl rfl, by decide +kernel⟩
theorem dX0_become_0 : decode cX0_become 0 = .ok (.aload_n 1, 1) := by decide +kernel
theorem dX0_become_1 : decode cX0_become 1 = .ok (.getfield 9, 3) := by decide +kernel
theorem dX0_become_4 : decode cX0_become 4 = .ok (.iconst 0, 1) := by decide +kernel
theorem dX0_become_5 : decode cX0_become 5 = .ok (.aload_n 0, 1) := by decide +kernel
theorem dX0_become_6 : decode cX0_become 6 = .ok (.getfield 9, 3) := by decide +kernel
theorem dX0_become_9 : decode cX0_become 9 = .ok (.iconst 0, 1) := by decide +kernel
theorem dX0_become_10 : decode cX0_become 10 = .ok (.bipush 8, 2) := by decide +kernel
theorem dX0_become_12 : decode cX0_become 12 = .ok (.invokestatic 25, 3) := by decide +kernel
theorem dX0_become_15 : decode cX0_become 15 = .ok (.aload_n 1, 1) := by decide +kernel
theorem dX0_become_16 : decode cX0_become 16 = .ok (.getfield 15, 3) := by decide +kernel
theorem dX0_become_19 : decode cX0_become 19 = .ok (.iconst 0, 1) := by decide +kernel
theorem dX0_become_20 : decode cX0_become 20 = .ok (.aload_n 0, 1) := by decide +kernel
theorem dX0_become_21 : decode cX0_become 21 = .ok (.getfield 15, 3) := by decide +kernel
theorem dX0_become_24 : decode cX0_become 24 = .ok (.iconst 0, 1) := by decide +kernel
theorem dX0_become_25 : decode cX0_become 25 = .ok (.bipush 8, 2) := by decide +kernel
theorem dX0_become_27 : decode cX0_become 27 = .ok (.invokestatic 25, 3) := by decide +kernel
theorem dX0_become_30 : decode cX0_become 30 = .ok (.aload_n 1, 1) := by decide +kernel
theorem dX0_become_31 : decode cX0_become 31 = .ok (.getfield 18, 3) := by decide +kernel
theorem dX0_become_34 : decode cX0_become 34 = .ok (.iconst 0, 1) := by decide +kernel
theorem dX0_become_35 : decode cX0_become 35 = .ok (.aload_n 0, 1) := by decide +kernel
theorem dX0_become_36 : decode cX0_become 36 = .ok (.getfield 18, 3) := by decide +kernel
theorem dX0_become_39 : decode cX0_become 39 = .ok (.iconst 0, 1) := by decide +kernel
theorem dX0_become_40 : decode cX0_become 40 = .ok (.bipush 8, 2) := by decide +kernel
theorem dX0_become_42 : decode cX0_become 42 = .ok (.invokestatic 25, 3) := by decide +kernel
theorem dX0_become_45 : decode cX0_become 45 = .ok (.aload_n 0, 1) := by decide +kernel
theorem dX0_become_46 : decode cX0_become 46 = .ok (.aload_n 1, 1) := by decide +kernel
theorem dX0_become_47 : decode cX0_become 47 = .ok (.getfield 21, 3) := by decide +kernel
theorem dX0_become_50 : decode cX0_become 50 = .ok (.putfield 21, 3) := by decide +kernel
theorem dX0_become_53 : decode cX0_become 53 = .ok (.aload_n 0, 1) := by decide +kernel
theorem dX0_become_54 : decode cX0_become 54 = .ok (.aload_n 1, 1) := by decide +kernel
theorem dX0_become_55 : decode cX0_become 55 = .ok (.getfield 31, 3) := by decide +kernel
theorem dX0_become_58 : decode cX0_become 58 = .ok (.putfield 31, 3) := by decide +kernel
theorem dX0_become_61 : decode cX0_become 61 = .ok (.return_, 1) := by decide +kernel
theorem dX0_seatOf_0 : decode cX0_seatOf 0 = .ok (.iconst 0, 1) := by decide +kernel
theorem dX0_seatOf_1 : decode cX0_seatOf 1 = .ok (.istore_n 2, 1) := by decide +kernel
theorem dX0_seatOf_2 : decode cX0_seatOf 2 = .ok (.iload_n 2, 1) := by decide +kernel
theorem dX0_seatOf_3 : decode cX0_seatOf 3 = .ok (.bipush 8, 2) := by decide +kernel
theorem dX0_seatOf_5 : decode cX0_seatOf 5 = .ok (.if_icmp .ge 21, 3) := by decide +kernel
theorem dX0_seatOf_8 : decode cX0_seatOf 8 = .ok (.aload_n 0, 1) := by decide +kernel
theorem dX0_seatOf_9 : decode cX0_seatOf 9 = .ok (.getfield 9, 3) := by decide +kernel
theorem dX0_seatOf_12 : decode cX0_seatOf 12 = .ok (.iload_n 2, 1) := by decide +kernel
theorem dX0_seatOf_13 : decode cX0_seatOf 13 = .ok (.iaload, 1) := by decide +kernel
theorem dX0_seatOf_14 : decode cX0_seatOf 14 = .ok (.iload_n 1, 1) := by decide +kernel
theorem dX0_seatOf_15 : decode cX0_seatOf 15 = .ok (.if_icmp .ne 5, 3) := by decide +kernel
theorem dX0_seatOf_18 : decode cX0_seatOf 18 = .ok (.iload_n 2, 1) := by decide +kernel
theorem dX0_seatOf_19 : decode cX0_seatOf 19 = .ok (.ireturn, 1) := by decide +kernel
theorem dX0_seatOf_20 : decode cX0_seatOf 20 = .ok (.iinc 2 1, 3) := by decide +kernel
theorem dX0_seatOf_23 : decode cX0_seatOf 23 = .ok (.goto (-21), 3) := by decide +kernel
theorem dX0_seatOf_26 : decode cX0_seatOf 26 = .ok (.iconst (-1), 1) := by decide +kernel
theorem dX0_seatOf_27 : decode cX0_seatOf 27 = .ok (.ireturn, 1) := by decide +kernel
theorem dX0_place_0 : decode cX0_place 0 = .ok (.aload_n 0, 1) := by decide +kernel
theorem dX0_place_1 : decode cX0_place 1 = .ok (.getfield 9, 3) := by decide +kernel
theorem dX0_place_4 : decode cX0_place 4 = .ok (.iload_n 1, 1) := by decide +kernel
theorem dX0_place_5 : decode cX0_place 5 = .ok (.iaload, 1) := by decide +kernel
theorem dX0_place_6 : decode cX0_place 6 = .ok (.istore_n 3, 1) := by decide +kernel
theorem dX0_place_7 : decode cX0_place 7 = .ok (.iload_n 2, 1) := by decide +kernel
theorem dX0_place_8 : decode cX0_place 8 = .ok (.iconst (-1), 1) := by decide +kernel
theorem dX0_place_9 : decode cX0_place 9 = .ok (.if_icmp .ne 7, 3) := by decide +kernel
theorem dX0_place_12 : decode cX0_place 12 = .ok (.iconst (-1), 1) := by decide +kernel
theorem dX0_place_13 : decode cX0_place 13 = .ok (.goto 8, 3) := by decide +kernel
theorem dX0_place_16 : decode cX0_place 16 = .ok (.aload_n 0, 1) := by decide +kernel
theorem dX0_place_17 : decode cX0_place 17 = .ok (.iload_n 2, 1) := by decide +kernel
theorem dX0_place_18 : decode cX0_place 18 = .ok (.invokevirtual 34, 3) := by decide +kernel
theorem dX0_place_21 : decode cX0_place 21 = .ok (.istore 4, 2) := by decide +kernel
theorem dX0_place_23 : decode cX0_place 23 = .ok (.iload 4, 2) := by decide +kernel
theorem dX0_place_25 : decode cX0_place 25 = .ok (.iconst (-1), 1) := by decide +kernel
theorem dX0_place_26 : decode cX0_place 26 = .ok (.if_icmp .eq 11, 3) := by decide +kernel
theorem dX0_place_29 : decode cX0_place 29 = .ok (.aload_n 0, 1) := by decide +kernel
theorem dX0_place_30 : decode cX0_place 30 = .ok (.getfield 9, 3) := by decide +kernel
theorem dX0_place_33 : decode cX0_place 33 = .ok (.iload 4, 2) := by decide +kernel
theorem dX0_place_35 : decode cX0_place 35 = .ok (.iconst (-1), 1) := by decide +kernel
theorem dX0_place_36 : decode cX0_place 36 = .ok (.iastore, 1) := by decide +kernel
theorem dX0_place_37 : decode cX0_place 37 = .ok (.aload_n 0, 1) := by decide +kernel
theorem dX0_place_38 : decode cX0_place 38 = .ok (.getfield 9, 3) := by decide +kernel
theorem dX0_place_41 : decode cX0_place 41 = .ok (.iload_n 1, 1) := by decide +kernel
theorem dX0_place_42 : decode cX0_place 42 = .ok (.iload_n 2, 1) := by decide +kernel
theorem dX0_place_43 : decode cX0_place 43 = .ok (.iastore, 1) := by decide +kernel
theorem dX0_place_44 : decode cX0_place 44 = .ok (.iload_n 3, 1) := by decide +kernel
theorem dX0_place_45 : decode cX0_place 45 = .ok (.ireturn, 1) := by decide +kernel
theorem dX0_sitters_0 : decode cX0_sitters 0 = .ok (.iconst 0, 1) := by decide +kernel
theorem dX0_sitters_1 : decode cX0_sitters 1 = .ok (.istore_n 1, 1) := by decide +kernel
theorem dX0_sitters_2 : decode cX0_sitters 2 = .ok (.iconst 0, 1) := by decide +kernel
theorem dX0_sitters_3 : decode cX0_sitters 3 = .ok (.istore_n 2, 1) := by decide +kernel
theorem dX0_sitters_4 : decode cX0_sitters 4 = .ok (.iload_n 2, 1) := by decide +kernel
theorem dX0_sitters_5 : decode cX0_sitters 5 = .ok (.bipush 8, 2) := by decide +kernel
theorem dX0_sitters_7 : decode cX0_sitters 7 = .ok (.if_icmp .ge 22, 3) := by decide +kernel
theorem dX0_sitters_10 : decode cX0_sitters 10 = .ok (.aload_n 0, 1) := by decide +kernel
theorem dX0_sitters_11 : decode cX0_sitters 11 = .ok (.getfield 9, 3) := by decide +kernel
theorem dX0_sitters_14 : decode cX0_sitters 14 = .ok (.iload_n 2, 1) := by decide +kernel
theorem dX0_sitters_15 : decode cX0_sitters 15 = .ok (.iaload, 1) := by decide +kernel
theorem dX0_sitters_16 : decode cX0_sitters 16 = .ok (.iconst (-1), 1) := by decide +kernel
theorem dX0_sitters_17 : decode cX0_sitters 17 = .ok (.if_icmp .eq 6, 3) := by decide +kernel
theorem dX0_sitters_20 : decode cX0_sitters 20 = .ok (.iinc 1 1, 3) := by decide +kernel
theorem dX0_sitters_23 : decode cX0_sitters 23 = .ok (.iinc 2 1, 3) := by decide +kernel
theorem dX0_sitters_26 : decode cX0_sitters 26 = .ok (.goto (-22), 3) := by decide +kernel
theorem dX0_sitters_29 : decode cX0_sitters 29 = .ok (.iload_n 1, 1) := by decide +kernel
theorem dX0_sitters_30 : decode cX0_sitters 30 = .ok (.ireturn, 1) := by decide +kernel
theorem dX2_has_0 : decode cX2_has 0 = .ok (.iload_n 1, 1) := by decide +kernel
theorem dX2_has_1 : decode cX2_has 1 = .ok (.ifCond .lt 15, 3) := by decide +kernel
theorem dX2_has_4 : decode cX2_has 4 = .ok (.iload_n 1, 1) := by decide +kernel
theorem dX2_has_5 : decode cX2_has 5 = .ok (.aload_n 0, 1) := by decide +kernel
theorem dX2_has_6 : decode cX2_has 6 = .ok (.getfield 24, 3) := by decide +kernel
theorem dX2_has_9 : decode cX2_has 9 = .ok (.if_icmp .ge 7, 3) := by decide +kernel
theorem dX2_has_12 : decode cX2_has 12 = .ok (.iconst 1, 1) := by decide +kernel
theorem dX2_has_13 : decode cX2_has 13 = .ok (.goto 4, 3) := by decide +kernel
theorem dX2_has_16 : decode cX2_has 16 = .ok (.iconst 0, 1) := by decide +kernel
theorem dX2_has_17 : decode cX2_has 17 = .ok (.ireturn, 1) := by decide +kernel
theorem dX0_weightOf_0 : decode cX0_weightOf 0 = .ok (.iconst 0, 1) := by decide +kernel
theorem dX0_weightOf_1 : decode cX0_weightOf 1 = .ok (.istore_n 2, 1) := by decide +kernel
theorem dX0_weightOf_2 : decode cX0_weightOf 2 = .ok (.iconst 0, 1) := by decide +kernel
theorem dX0_weightOf_3 : decode cX0_weightOf 3 = .ok (.istore_n 3, 1) := by decide +kernel
theorem dX0_weightOf_4 : decode cX0_weightOf 4 = .ok (.iload_n 3, 1) := by decide +kernel
theorem dX0_weightOf_5 : decode cX0_weightOf 5 = .ok (.bipush 8, 2) := by decide +kernel
theorem dX0_weightOf_7 : decode cX0_weightOf 7 = .ok (.if_icmp .ge 36, 3) := by decide +kernel
theorem dX0_weightOf_10 : decode cX0_weightOf 10 = .ok (.aload_n 1, 1) := by decide +kernel
theorem dX0_weightOf_11 : decode cX0_weightOf 11 = .ok (.aload_n 0, 1) := by decide +kernel
theorem dX0_weightOf_12 : decode cX0_weightOf 12 = .ok (.getfield 9, 3) := by decide +kernel
theorem dX0_weightOf_15 : decode cX0_weightOf 15 = .ok (.iload_n 3, 1) := by decide +kernel
theorem dX0_weightOf_16 : decode cX0_weightOf 16 = .ok (.iaload, 1) := by decide +kernel
theorem dX0_weightOf_17 : decode cX0_weightOf 17 = .ok (.invokevirtual 38, 3) := by decide +kernel
theorem dX0_weightOf_20 : decode cX0_weightOf 20 = .ok (.ifCond .eq 17, 3) := by decide +kernel
theorem dX0_weightOf_23 : decode cX0_weightOf 23 = .ok (.iload_n 2, 1) := by decide +kernel
theorem dX0_weightOf_24 : decode cX0_weightOf 24 = .ok (.aload_n 1, 1) := by decide +kernel
theorem dX0_weightOf_25 : decode cX0_weightOf 25 = .ok (.getfield 44, 3) := by decide +kernel
theorem dX0_weightOf_28 : decode cX0_weightOf 28 = .ok (.aload_n 0, 1) := by decide +kernel
theorem dX0_weightOf_29 : decode cX0_weightOf 29 = .ok (.getfield 9, 3) := by decide +kernel
theorem dX0_weightOf_32 : decode cX0_weightOf 32 = .ok (.iload_n 3, 1) := by decide +kernel
theorem dX0_weightOf_33 : decode cX0_weightOf 33 = .ok (.iaload, 1) := by decide +kernel
theorem dX0_weightOf_34 : decode cX0_weightOf 34 = .ok (.iaload, 1) := by decide +kernel
theorem dX0_weightOf_35 : decode cX0_weightOf 35 = .ok (.iadd, 1) := by decide +kernel
theorem dX0_weightOf_36 : decode cX0_weightOf 36 = .ok (.istore_n 2, 1) := by decide +kernel
theorem dX0_weightOf_37 : decode cX0_weightOf 37 = .ok (.iinc 3 1, 3) := by decide +kernel
theorem dX0_weightOf_40 : decode cX0_weightOf 40 = .ok (.goto (-36), 3) := by decide +kernel
theorem dX0_weightOf_43 : decode cX0_weightOf 43 = .ok (.iload_n 2, 1) := by decide +kernel
theorem dX0_weightOf_44 : decode cX0_weightOf 44 = .ok (.ireturn, 1) := by decide +kernel
theorem dX2_add_0 : decode cX2_add 0 = .ok (.aload_n 0, 1) := by decide +kernel
theorem dX2_add_1 : decode cX2_add 1 = .ok (.getfield 24, 3) := by decide +kernel
theorem dX2_add_4 : decode cX2_add 4 = .ok (.bipush 16, 2) := by decide +kernel
theorem dX2_add_6 : decode cX2_add 6 = .ok (.if_icmp .lt 6, 3) := by decide +kernel
theorem dX2_add_9 : decode cX2_add 9 = .ok (.bipush (-4), 2) := by decide +kernel
theorem dX2_add_11 : decode cX2_add 11 = .ok (.ireturn, 1) := by decide +kernel
theorem dX2_add_12 : decode cX2_add 12 = .ok (.aload_n 0, 1) := by decide +kernel
theorem dX2_add_13 : decode cX2_add 13 = .ok (.getfield 9, 3) := by decide +kernel
theorem dX2_add_16 : decode cX2_add 16 = .ok (.aload_n 0, 1) := by decide +kernel
theorem dX2_add_17 : decode cX2_add 17 = .ok (.getfield 24, 3) := by decide +kernel
theorem dX2_add_20 : decode cX2_add 20 = .ok (.iload_n 1, 1) := by decide +kernel
theorem dX2_add_21 : decode cX2_add 21 = .ok (.iastore, 1) := by decide +kernel
theorem dX2_add_22 : decode cX2_add 22 = .ok (.aload_n 0, 1) := by decide +kernel
theorem dX2_add_23 : decode cX2_add 23 = .ok (.getfield 15, 3) := by decide +kernel
theorem dX2_add_26 : decode cX2_add 26 = .ok (.aload_n 0, 1) := by decide +kernel
theorem dX2_add_27 : decode cX2_add 27 = .ok (.getfield 24, 3) := by decide +kernel
theorem dX2_add_30 : decode cX2_add 30 = .ok (.iload_n 2, 1) := by decide +kernel
theorem dX2_add_31 : decode cX2_add 31 = .ok (.iastore, 1) := by decide +kernel
theorem dX2_add_32 : decode cX2_add 32 = .ok (.aload_n 0, 1) := by decide +kernel
theorem dX2_add_33 : decode cX2_add 33 = .ok (.getfield 18, 3) := by decide +kernel
theorem dX2_add_36 : decode cX2_add 36 = .ok (.aload_n 0, 1) := by decide +kernel
theorem dX2_add_37 : decode cX2_add 37 = .ok (.getfield 24, 3) := by decide +kernel
theorem dX2_add_40 : decode cX2_add 40 = .ok (.iload_n 3, 1) := by decide +kernel
theorem dX2_add_41 : decode cX2_add 41 = .ok (.iastore, 1) := by decide +kernel
theorem dX2_add_42 : decode cX2_add 42 = .ok (.aload_n 0, 1) := by decide +kernel
theorem dX2_add_43 : decode cX2_add 43 = .ok (.getfield 21, 3) := by decide +kernel
theorem dX2_add_46 : decode cX2_add 46 = .ok (.aload_n 0, 1) := by decide +kernel
theorem dX2_add_47 : decode cX2_add 47 = .ok (.getfield 24, 3) := by decide +kernel
theorem dX2_add_50 : decode cX2_add 50 = .ok (.iload 4, 2) := by decide +kernel
theorem dX2_add_52 : decode cX2_add 52 = .ok (.iastore, 1) := by decide +kernel
theorem dX2_add_53 : decode cX2_add 53 = .ok (.aload_n 0, 1) := by decide +kernel
theorem dX2_add_54 : decode cX2_add 54 = .ok (.dup, 1) := by decide +kernel
theorem dX2_add_55 : decode cX2_add 55 = .ok (.getfield 24, 3) := by decide +kernel
theorem dX2_add_58 : decode cX2_add 58 = .ok (.iconst 1, 1) := by decide +kernel
theorem dX2_add_59 : decode cX2_add 59 = .ok (.iadd, 1) := by decide +kernel
theorem dX2_add_60 : decode cX2_add 60 = .ok (.putfield 24, 3) := by decide +kernel
theorem dX2_add_63 : decode cX2_add 63 = .ok (.aload_n 0, 1) := by decide +kernel
theorem dX2_add_64 : decode cX2_add 64 = .ok (.getfield 24, 3) := by decide +kernel
theorem dX2_add_67 : decode cX2_add 67 = .ok (.iconst 1, 1) := by decide +kernel
theorem dX2_add_68 : decode cX2_add 68 = .ok (.isub, 1) := by decide +kernel
theorem dX2_add_69 : decode cX2_add 69 = .ok (.ireturn, 1) := by decide +kernel
theorem dX3_has_0 : decode cX3_has 0 = .ok (.iload_n 0, 1) := by decide +kernel
theorem dX3_has_1 : decode cX3_has 1 = .ok (.ifCond .lt 12, 3) := by decide +kernel
theorem dX3_has_4 : decode cX3_has 4 = .ok (.iload_n 0, 1) := by decide +kernel
theorem dX3_has_5 : decode cX3_has 5 = .ok (.iconst 5, 1) := by decide +kernel
theorem dX3_has_6 : decode cX3_has 6 = .ok (.if_icmp .gt 7, 3) := by decide +kernel
theorem dX3_has_9 : decode cX3_has 9 = .ok (.iconst 1, 1) := by decide +kernel
theorem dX3_has_10 : decode cX3_has 10 = .ok (.goto 4, 3) := by decide +kernel
theorem dX3_has_13 : decode cX3_has 13 = .ok (.iconst 0, 1) := by decide +kernel
theorem dX3_has_14 : decode cX3_has 14 = .ok (.ireturn, 1) := by decide +kernel
theorem dX3_latePull_0 : decode cX3_latePull 0 = .ok (.iload_n 1, 1) := by decide +kernel
theorem dX3_latePull_1 : decode cX3_latePull 1 = .ok (.ifCond .ne 9, 3) := by decide +kernel
theorem dX3_latePull_4 : decode cX3_latePull 4 = .ok (.iload_n 0, 1) := by decide +kernel
theorem dX3_latePull_5 : decode cX3_latePull 5 = .ok (.iconst 2, 1) := by decide +kernel
theorem dX3_latePull_6 : decode cX3_latePull 6 = .ok (.idiv, 1) := by decide +kernel
theorem dX3_latePull_7 : decode cX3_latePull 7 = .ok (.goto 4, 3) := by decide +kernel
theorem dX3_latePull_10 : decode cX3_latePull 10 = .ok (.iload_n 0, 1) := by decide +kernel
theorem dX3_latePull_11 : decode cX3_latePull 11 = .ok (.ireturn, 1) := by decide +kernel
theorem dX3_pull_0 : decode cX3_pull 0 = .ok (.iload_n 0, 1) := by decide +kernel
theorem dX3_pull_1 : decode cX3_pull 1 = .ok (.tableswitch 73 1 5 #[35, 41, 47, 53, 65], 35) := by decide +kernel
theorem dX3_pull_36 : decode cX3_pull 36 = .ok (.iconst 2, 1) := by decide +kernel
theorem dX3_pull_37 : decode cX3_pull 37 = .ok (.iload_n 1, 1) := by decide +kernel
theorem dX3_pull_38 : decode cX3_pull 38 = .ok (.imul, 1) := by decide +kernel
theorem dX3_pull_39 : decode cX3_pull 39 = .ok (.iconst 3, 1) := by decide +kernel
theorem dX3_pull_40 : decode cX3_pull 40 = .ok (.idiv, 1) := by decide +kernel
theorem dX3_pull_41 : decode cX3_pull 41 = .ok (.ireturn, 1) := by decide +kernel
theorem dX3_pull_42 : decode cX3_pull 42 = .ok (.iload_n 1, 1) := by decide +kernel
theorem dX3_pull_43 : decode cX3_pull 43 = .ok (.iload_n 1, 1) := by decide +kernel
theorem dX3_pull_44 : decode cX3_pull 44 = .ok (.iconst 4, 1) := by decide +kernel
theorem dX3_pull_45 : decode cX3_pull 45 = .ok (.idiv, 1) := by decide +kernel
theorem dX3_pull_46 : decode cX3_pull 46 = .ok (.iadd, 1) := by decide +kernel
theorem dX3_pull_47 : decode cX3_pull 47 = .ok (.ireturn, 1) := by decide +kernel
theorem dX3_pull_48 : decode cX3_pull 48 = .ok (.iload_n 1, 1) := by decide +kernel
theorem dX3_pull_49 : decode cX3_pull 49 = .ok (.iload_n 2, 1) := by decide +kernel
theorem dX3_pull_50 : decode cX3_pull 50 = .ok (.invokestatic 9, 3) := by decide +kernel
theorem dX3_pull_53 : decode cX3_pull 53 = .ok (.ireturn, 1) := by decide +kernel
theorem dX3_pull_54 : decode cX3_pull 54 = .ok (.iconst 0, 1) := by decide +kernel
theorem dX3_pull_55 : decode cX3_pull 55 = .ok (.iload_n 1, 1) := by decide +kernel
theorem dX3_pull_56 : decode cX3_pull 56 = .ok (.iload_n 2, 1) := by decide +kernel
theorem dX3_pull_57 : decode cX3_pull 57 = .ok (.invokestatic 9, 3) := by decide +kernel
theorem dX3_pull_60 : decode cX3_pull 60 = .ok (.iconst 3, 1) := by decide +kernel
theorem dX3_pull_61 : decode cX3_pull 61 = .ok (.isub, 1) := by decide +kernel
theorem dX3_pull_62 : decode cX3_pull 62 = .ok (.invokestatic 13, 3) := by decide +kernel
theorem dX3_pull_65 : decode cX3_pull 65 = .ok (.ireturn, 1) := by decide +kernel
theorem dX3_pull_66 : decode cX3_pull 66 = .ok (.iconst 2, 1) := by decide +kernel
theorem dX3_pull_67 : decode cX3_pull 67 = .ok (.iload_n 1, 1) := by decide +kernel
theorem dX3_pull_68 : decode cX3_pull 68 = .ok (.imul, 1) := by decide +kernel
theorem dX3_pull_69 : decode cX3_pull 69 = .ok (.iconst 3, 1) := by decide +kernel
theorem dX3_pull_70 : decode cX3_pull 70 = .ok (.idiv, 1) := by decide +kernel
theorem dX3_pull_71 : decode cX3_pull 71 = .ok (.iconst 2, 1) := by decide +kernel
theorem dX3_pull_72 : decode cX3_pull 72 = .ok (.idiv, 1) := by decide +kernel
theorem dX3_pull_73 : decode cX3_pull 73 = .ok (.ireturn, 1) := by decide +kernel
theorem dX3_pull_74 : decode cX3_pull 74 = .ok (.iload_n 1, 1) := by decide +kernel
theorem dX3_pull_75 : decode cX3_pull 75 = .ok (.ireturn, 1) := by decide +kernel
theorem dX3_cost_0 : decode cX3_cost 0 = .ok (.iload_n 0, 1) := by decide +kernel
theorem dX3_cost_1 : decode cX3_cost 1 = .ok (.tableswitch 53 1 5 #[35, 39, 53, 43, 47], 35) := by decide +kernel
theorem dX3_cost_36 : decode cX3_cost 36 = .ok (.iload_n 1, 1) := by decide +kernel
theorem dX3_cost_37 : decode cX3_cost 37 = .ok (.iconst 5, 1) := by decide +kernel
theorem dX3_cost_38 : decode cX3_cost 38 = .ok (.iadd, 1) := by decide +kernel
theorem dX3_cost_39 : decode cX3_cost 39 = .ok (.ireturn, 1) := by decide +kernel
theorem dX3_cost_40 : decode cX3_cost 40 = .ok (.iconst 2, 1) := by decide +kernel
theorem dX3_cost_41 : decode cX3_cost 41 = .ok (.iload_n 1, 1) := by decide +kernel
theorem dX3_cost_42 : decode cX3_cost 42 = .ok (.imul, 1) := by decide +kernel
theorem dX3_cost_43 : decode cX3_cost 43 = .ok (.ireturn, 1) := by decide +kernel
theorem dX3_cost_44 : decode cX3_cost 44 = .ok (.iload_n 1, 1) := by decide +kernel
theorem dX3_cost_45 : decode cX3_cost 45 = .ok (.iconst 2, 1) := by decide +kernel
theorem dX3_cost_46 : decode cX3_cost 46 = .ok (.iadd, 1) := by decide +kernel
theorem dX3_cost_47 : decode cX3_cost 47 = .ok (.ireturn, 1) := by decide +kernel
theorem dX3_cost_48 : decode cX3_cost 48 = .ok (.iload_n 1, 1) := by decide +kernel
theorem dX3_cost_49 : decode cX3_cost 49 = .ok (.iconst 5, 1) := by decide +kernel
theorem dX3_cost_50 : decode cX3_cost 50 = .ok (.iadd, 1) := by decide +kernel
theorem dX3_cost_51 : decode cX3_cost 51 = .ok (.iconst 3, 1) := by decide +kernel
theorem dX3_cost_52 : decode cX3_cost 52 = .ok (.idiv, 1) := by decide +kernel
theorem dX3_cost_53 : decode cX3_cost 53 = .ok (.ireturn, 1) := by decide +kernel
theorem dX3_cost_54 : decode cX3_cost 54 = .ok (.iload_n 1, 1) := by decide +kernel
theorem dX3_cost_55 : decode cX3_cost 55 = .ok (.ireturn, 1) := by decide +kernel
theorem dX3_slips_0 : decode cX3_slips 0 = .ok (.iload_n 0, 1) := by decide +kernel
theorem dX3_slips_1 : decode cX3_slips 1 = .ok (.tableswitch 33 2 4 #[27, 29, 31], 27) := by decide +kernel
theorem dX3_slips_28 : decode cX3_slips 28 = .ok (.iconst 1, 1) := by decide +kernel
theorem dX3_slips_29 : decode cX3_slips 29 = .ok (.ireturn, 1) := by decide +kernel
theorem dX3_slips_30 : decode cX3_slips 30 = .ok (.iconst 3, 1) := by decide +kernel
theorem dX3_slips_31 : decode cX3_slips 31 = .ok (.ireturn, 1) := by decide +kernel
theorem dX3_slips_32 : decode cX3_slips 32 = .ok (.iconst 5, 1) := by decide +kernel
theorem dX3_slips_33 : decode cX3_slips 33 = .ok (.ireturn, 1) := by decide +kernel
theorem dX3_slips_34 : decode cX3_slips 34 = .ok (.iconst 0, 1) := by decide +kernel
theorem dX3_slips_35 : decode cX3_slips 35 = .ok (.ireturn, 1) := by decide +kernel
theorem dX3_isUnder_0 : decode cX3_isUnder 0 = .ok (.iload_n 1, 1) := by decide +kernel
theorem dX3_isUnder_1 : decode cX3_isUnder 1 = .ok (.ifCond .eq 28, 3) := by decide +kernel
theorem dX3_isUnder_4 : decode cX3_isUnder 4 = .ok (.iload_n 0, 1) := by decide +kernel
theorem dX3_isUnder_5 : decode cX3_isUnder 5 = .ok (.iload_n 1, 1) := by decide +kernel
theorem dX3_isUnder_6 : decode cX3_isUnder 6 = .ok (.if_icmp .eq 23, 3) := by decide +kernel
theorem dX3_isUnder_9 : decode cX3_isUnder 9 = .ok (.iload_n 0, 1) := by decide +kernel
theorem dX3_isUnder_10 : decode cX3_isUnder 10 = .ok (.iconst 4, 1) := by decide +kernel
theorem dX3_isUnder_11 : decode cX3_isUnder 11 = .ok (.if_icmp .ne 8, 3) := by decide +kernel
theorem dX3_isUnder_14 : decode cX3_isUnder 14 = .ok (.iload_n 1, 1) := by decide +kernel
theorem dX3_isUnder_15 : decode cX3_isUnder 15 = .ok (.iconst 3, 1) := by decide +kernel
theorem dX3_isUnder_16 : decode cX3_isUnder 16 = .ok (.if_icmp .eq 13, 3) := by decide +kernel
theorem dX3_isUnder_19 : decode cX3_isUnder 19 = .ok (.iload_n 0, 1) := by decide +kernel
theorem dX3_isUnder_20 : decode cX3_isUnder 20 = .ok (.iconst 5, 1) := by decide +kernel
theorem dX3_isUnder_21 : decode cX3_isUnder 21 = .ok (.if_icmp .ne 12, 3) := by decide +kernel
theorem dX3_isUnder_24 : decode cX3_isUnder 24 = .ok (.iload_n 1, 1) := by decide +kernel
theorem dX3_isUnder_25 : decode cX3_isUnder 25 = .ok (.iconst 1, 1) := by decide +kernel
theorem dX3_isUnder_26 : decode cX3_isUnder 26 = .ok (.if_icmp .ne 7, 3) := by decide +kernel
theorem dX3_isUnder_29 : decode cX3_isUnder 29 = .ok (.iconst 1, 1) := by decide +kernel
theorem dX3_isUnder_30 : decode cX3_isUnder 30 = .ok (.goto 4, 3) := by decide +kernel
theorem dX3_isUnder_33 : decode cX3_isUnder 33 = .ok (.iconst 0, 1) := by decide +kernel
theorem dX3_isUnder_34 : decode cX3_isUnder 34 = .ok (.ireturn, 1) := by decide +kernel
theorem dX5_isLane_0 : decode cX5_isLane 0 = .ok (.iload_n 0, 1) := by decide +kernel
theorem dX5_isLane_1 : decode cX5_isLane 1 = .ok (.ifCond .lt 13, 3) := by decide +kernel
theorem dX5_isLane_4 : decode cX5_isLane 4 = .ok (.iload_n 0, 1) := by decide +kernel
theorem dX5_isLane_5 : decode cX5_isLane 5 = .ok (.bipush 6, 2) := by decide +kernel
theorem dX5_isLane_7 : decode cX5_isLane 7 = .ok (.if_icmp .ge 7, 3) := by decide +kernel
theorem dX5_isLane_10 : decode cX5_isLane 10 = .ok (.iconst 1, 1) := by decide +kernel
theorem dX5_isLane_11 : decode cX5_isLane 11 = .ok (.goto 4, 3) := by decide +kernel
theorem dX5_isLane_14 : decode cX5_isLane 14 = .ok (.iconst 0, 1) := by decide +kernel
theorem dX5_isLane_15 : decode cX5_isLane 15 = .ok (.ireturn, 1) := by decide +kernel
theorem dX5_add_0 : decode cX5_add 0 = .ok (.iconst 0, 1) := by decide +kernel
theorem dX5_add_1 : decode cX5_add 1 = .ok (.istore_n 2, 1) := by decide +kernel
theorem dX5_add_2 : decode cX5_add 2 = .ok (.iload_n 2, 1) := by decide +kernel
theorem dX5_add_3 : decode cX5_add 3 = .ok (.bipush 6, 2) := by decide +kernel
theorem dX5_add_5 : decode cX5_add 5 = .ok (.if_icmp .ge 27, 3) := by decide +kernel
theorem dX5_add_8 : decode cX5_add 8 = .ok (.aload_n 1, 1) := by decide +kernel
theorem dX5_add_9 : decode cX5_add 9 = .ok (.iload_n 2, 1) := by decide +kernel
theorem dX5_add_10 : decode cX5_add 10 = .ok (.iaload, 1) := by decide +kernel
theorem dX5_add_11 : decode cX5_add 11 = .ok (.ifCond .lt 12, 3) := by decide +kernel
theorem dX5_add_14 : decode cX5_add 14 = .ok (.aload_n 1, 1) := by decide +kernel
theorem dX5_add_15 : decode cX5_add 15 = .ok (.iload_n 2, 1) := by decide +kernel
theorem dX5_add_16 : decode cX5_add 16 = .ok (.iaload, 1) := by decide +kernel
theorem dX5_add_17 : decode cX5_add 17 = .ok (.sipush 9999, 3) := by decide +kernel
theorem dX5_add_20 : decode cX5_add 20 = .ok (.if_icmp .le 6, 3) := by decide +kernel
theorem dX5_add_23 : decode cX5_add 23 = .ok (.bipush (-2), 2) := by decide +kernel
theorem dX5_add_25 : decode cX5_add 25 = .ok (.ireturn, 1) := by decide +kernel
theorem dX5_add_26 : decode cX5_add 26 = .ok (.iinc 2 1, 3) := by decide +kernel
theorem dX5_add_29 : decode cX5_add 29 = .ok (.goto (-27), 3) := by decide +kernel
theorem dX5_add_32 : decode cX5_add 32 = .ok (.aload_n 0, 1) := by decide +kernel
theorem dX5_add_33 : decode cX5_add 33 = .ok (.getfield 15, 3) := by decide +kernel
theorem dX5_add_36 : decode cX5_add 36 = .ok (.bipush 20, 2) := by decide +kernel
theorem dX5_add_38 : decode cX5_add 38 = .ok (.if_icmp .lt 6, 3) := by decide +kernel
theorem dX5_add_41 : decode cX5_add 41 = .ok (.bipush (-4), 2) := by decide +kernel
theorem dX5_add_43 : decode cX5_add 43 = .ok (.ireturn, 1) := by decide +kernel
theorem dX5_add_44 : decode cX5_add 44 = .ok (.aload_n 1, 1) := by decide +kernel
theorem dX5_add_45 : decode cX5_add 45 = .ok (.iconst 0, 1) := by decide +kernel
theorem dX5_add_46 : decode cX5_add 46 = .ok (.aload_n 0, 1) := by decide +kernel
theorem dX5_add_47 : decode cX5_add 47 = .ok (.getfield 11, 3) := by decide +kernel
theorem dX5_add_50 : decode cX5_add 50 = .ok (.aload_n 0, 1) := by decide +kernel
theorem dX5_add_51 : decode cX5_add 51 = .ok (.getfield 15, 3) := by decide +kernel
theorem dX5_add_54 : decode cX5_add 54 = .ok (.bipush 6, 2) := by decide +kernel
theorem dX5_add_56 : decode cX5_add 56 = .ok (.imul, 1) := by decide +kernel
theorem dX5_add_57 : decode cX5_add 57 = .ok (.bipush 6, 2) := by decide +kernel
theorem dX5_add_59 : decode cX5_add 59 = .ok (.invokestatic 19, 3) := by decide +kernel
theorem dX5_add_62 : decode cX5_add 62 = .ok (.aload_n 0, 1) := by decide +kernel
theorem dX5_add_63 : decode cX5_add 63 = .ok (.dup, 1) := by decide +kernel
theorem dX5_add_64 : decode cX5_add 64 = .ok (.getfield 15, 3) := by decide +kernel
theorem dX5_add_67 : decode cX5_add 67 = .ok (.iconst 1, 1) := by decide +kernel
theorem dX5_add_68 : decode cX5_add 68 = .ok (.iadd, 1) := by decide +kernel
theorem dX5_add_69 : decode cX5_add 69 = .ok (.putfield 15, 3) := by decide +kernel
theorem dX5_add_72 : decode cX5_add 72 = .ok (.aload_n 0, 1) := by decide +kernel
theorem dX5_add_73 : decode cX5_add 73 = .ok (.getfield 15, 3) := by decide +kernel
theorem dX5_add_76 : decode cX5_add 76 = .ok (.iconst 1, 1) := by decide +kernel
theorem dX5_add_77 : decode cX5_add 77 = .ok (.isub, 1) := by decide +kernel
theorem dX5_add_78 : decode cX5_add 78 = .ok (.ireturn, 1) := by decide +kernel
theorem dX5_timeOf_0 : decode cX5_timeOf 0 = .ok (.aload_n 0, 1) := by decide +kernel
theorem dX5_timeOf_1 : decode cX5_timeOf 1 = .ok (.getfield 11, 3) := by decide +kernel
theorem dX5_timeOf_4 : decode cX5_timeOf 4 = .ok (.iload_n 1, 1) := by decide +kernel
theorem dX5_timeOf_5 : decode cX5_timeOf 5 = .ok (.bipush 6, 2) := by decide +kernel
theorem dX5_timeOf_7 : decode cX5_timeOf 7 = .ok (.imul, 1) := by decide +kernel
theorem dX5_timeOf_8 : decode cX5_timeOf 8 = .ok (.iload_n 2, 1) := by decide +kernel
theorem dX5_timeOf_9 : decode cX5_timeOf 9 = .ok (.iadd, 1) := by decide +kernel
theorem dX5_timeOf_10 : decode cX5_timeOf 10 = .ok (.iaload, 1) := by decide +kernel
theorem dX5_timeOf_11 : decode cX5_timeOf 11 = .ok (.ireturn, 1) := by decide +kernel
theorem dX5_met_0 : decode cX5_met 0 = .ok (.aload_n 0, 1) := by decide +kernel
theorem dX5_met_1 : decode cX5_met 1 = .ok (.iload_n 1, 1) := by decide +kernel
theorem dX5_met_2 : decode cX5_met 2 = .ok (.iload_n 2, 1) := by decide +kernel
theorem dX5_met_3 : decode cX5_met 3 = .ok (.invokevirtual 29, 3) := by decide +kernel
theorem dX5_met_6 : decode cX5_met 6 = .ok (.ifCond .eq 16, 3) := by decide +kernel
theorem dX5_met_9 : decode cX5_met 9 = .ok (.aload_n 0, 1) := by decide +kernel
theorem dX5_met_10 : decode cX5_met 10 = .ok (.iload_n 1, 1) := by decide +kernel
theorem dX5_met_11 : decode cX5_met 11 = .ok (.iload_n 3, 1) := by decide +kernel
theorem dX5_met_12 : decode cX5_met 12 = .ok (.invokevirtual 29, 3) := by decide +kernel
theorem dX5_met_15 : decode cX5_met 15 = .ok (.ifCond .eq 7, 3) := by decide +kernel
theorem dX5_met_18 : decode cX5_met 18 = .ok (.iconst 1, 1) := by decide +kernel
theorem dX5_met_19 : decode cX5_met 19 = .ok (.goto 4, 3) := by decide +kernel
theorem dX5_met_22 : decode cX5_met 22 = .ok (.iconst 0, 1) := by decide +kernel
theorem dX5_met_23 : decode cX5_met 23 = .ok (.ireturn, 1) := by decide +kernel
theorem dX5_differences_0 : decode cX5_differences 0 = .ok (.iconst 0, 1) := by decide +kernel
theorem dX5_differences_1 : decode cX5_differences 1 = .ok (.istore_n 3, 1) := by decide +kernel
theorem dX5_differences_2 : decode cX5_differences 2 = .ok (.iconst 0, 1) := by decide +kernel
theorem dX5_differences_3 : decode cX5_differences 3 = .ok (.istore 4, 2) := by decide +kernel
theorem dX5_differences_5 : decode cX5_differences 5 = .ok (.iload 4, 2) := by decide +kernel
theorem dX5_differences_7 : decode cX5_differences 7 = .ok (.aload_n 0, 1) := by decide +kernel
theorem dX5_differences_8 : decode cX5_differences 8 = .ok (.getfield 15, 3) := by decide +kernel
theorem dX5_differences_11 : decode cX5_differences 11 = .ok (.if_icmp .ge 38, 3) := by decide +kernel
theorem dX5_differences_14 : decode cX5_differences 14 = .ok (.aload_n 0, 1) := by decide +kernel
theorem dX5_differences_15 : decode cX5_differences 15 = .ok (.iload 4, 2) := by decide +kernel
theorem dX5_differences_17 : decode cX5_differences 17 = .ok (.iload_n 1, 1) := by decide +kernel
theorem dX5_differences_18 : decode cX5_differences 18 = .ok (.iload_n 2, 1) := by decide +kernel
theorem dX5_differences_19 : decode cX5_differences 19 = .ok (.invokevirtual 25, 3) := by decide +kernel
theorem dX5_differences_22 : decode cX5_differences 22 = .ok (.ifCond .eq 21, 3) := by decide +kernel
theorem dX5_differences_25 : decode cX5_differences 25 = .ok (.iload_n 3, 1) := by decide +kernel
theorem dX5_differences_26 : decode cX5_differences 26 = .ok (.aload_n 0, 1) := by decide +kernel
theorem dX5_differences_27 : decode cX5_differences 27 = .ok (.iload 4, 2) := by decide +kernel
theorem dX5_differences_29 : decode cX5_differences 29 = .ok (.iload_n 1, 1) := by decide +kernel
theorem dX5_differences_30 : decode cX5_differences 30 = .ok (.invokevirtual 29, 3) := by decide +kernel
theorem dX5_differences_33 : decode cX5_differences 33 = .ok (.aload_n 0, 1) := by decide +kernel
theorem dX5_differences_34 : decode cX5_differences 34 = .ok (.iload 4, 2) := by decide +kernel
theorem dX5_differences_36 : decode cX5_differences 36 = .ok (.iload_n 2, 1) := by decide +kernel
theorem dX5_differences_37 : decode cX5_differences 37 = .ok (.invokevirtual 29, 3) := by decide +kernel
theorem dX5_differences_40 : decode cX5_differences 40 = .ok (.isub, 1) := by decide +kernel
theorem dX5_differences_41 : decode cX5_differences 41 = .ok (.iadd, 1) := by decide +kernel
theorem dX5_differences_42 : decode cX5_differences 42 = .ok (.istore_n 3, 1) := by decide +kernel
theorem dX5_differences_43 : decode cX5_differences 43 = .ok (.iinc 4 1, 3) := by decide +kernel
theorem dX5_differences_46 : decode cX5_differences 46 = .ok (.goto (-41), 3) := by decide +kernel
theorem dX5_differences_49 : decode cX5_differences 49 = .ok (.iload_n 3, 1) := by decide +kernel
theorem dX5_differences_50 : decode cX5_differences 50 = .ok (.ireturn, 1) := by decide +kernel
theorem dX5_meetings_0 : decode cX5_meetings 0 = .ok (.iconst 0, 1) := by decide +kernel
theorem dX5_meetings_1 : decode cX5_meetings 1 = .ok (.istore_n 3, 1) := by decide +kernel
theorem dX5_meetings_2 : decode cX5_meetings 2 = .ok (.iconst 0, 1) := by decide +kernel
theorem dX5_meetings_3 : decode cX5_meetings 3 = .ok (.istore 4, 2) := by decide +kernel
theorem dX5_meetings_5 : decode cX5_meetings 5 = .ok (.iload 4, 2) := by decide +kernel
theorem dX5_meetings_7 : decode cX5_meetings 7 = .ok (.aload_n 0, 1) := by decide +kernel
theorem dX5_meetings_8 : decode cX5_meetings 8 = .ok (.getfield 15, 3) := by decide +kernel
theorem dX5_meetings_11 : decode cX5_meetings 11 = .ok (.if_icmp .ge 23, 3) := by decide +kernel
theorem dX5_meetings_14 : decode cX5_meetings 14 = .ok (.aload_n 0, 1) := by decide +kernel
theorem dX5_meetings_15 : decode cX5_meetings 15 = .ok (.iload 4, 2) := by decide +kernel
theorem dX5_meetings_17 : decode cX5_meetings 17 = .ok (.iload_n 1, 1) := by decide +kernel
theorem dX5_meetings_18 : decode cX5_meetings 18 = .ok (.iload_n 2, 1) := by decide +kernel
theorem dX5_meetings_19 : decode cX5_meetings 19 = .ok (.invokevirtual 25, 3) := by decide +kernel
theorem dX5_meetings_22 : decode cX5_meetings 22 = .ok (.ifCond .eq 6, 3) := by decide +kernel
theorem dX5_meetings_25 : decode cX5_meetings 25 = .ok (.iinc 3 1, 3) := by decide +kernel
theorem dX5_meetings_28 : decode cX5_meetings 28 = .ok (.iinc 4 1, 3) := by decide +kernel
theorem dX5_meetings_31 : decode cX5_meetings 31 = .ok (.goto (-26), 3) := by decide +kernel
theorem dX5_meetings_34 : decode cX5_meetings 34 = .ok (.iload_n 3, 1) := by decide +kernel
theorem dX5_meetings_35 : decode cX5_meetings 35 = .ok (.ireturn, 1) := by decide +kernel
theorem dX5_isFirst_0 : decode cX5_isFirst 0 = .ok (.iconst 0, 1) := by decide +kernel
theorem dX5_isFirst_1 : decode cX5_isFirst 1 = .ok (.istore_n 3, 1) := by decide +kernel
theorem dX5_isFirst_2 : decode cX5_isFirst 2 = .ok (.iload_n 3, 1) := by decide +kernel
theorem dX5_isFirst_3 : decode cX5_isFirst 3 = .ok (.bipush 6, 2) := by decide +kernel
theorem dX5_isFirst_5 : decode cX5_isFirst 5 = .ok (.if_icmp .ge 35, 3) := by decide +kernel
theorem dX5_isFirst_8 : decode cX5_isFirst 8 = .ok (.aload_n 0, 1) := by decide +kernel
theorem dX5_isFirst_9 : decode cX5_isFirst 9 = .ok (.iload_n 1, 1) := by decide +kernel
theorem dX5_isFirst_10 : decode cX5_isFirst 10 = .ok (.iload_n 3, 1) := by decide +kernel
theorem dX5_isFirst_11 : decode cX5_isFirst 11 = .ok (.invokevirtual 29, 3) := by decide +kernel
theorem dX5_isFirst_14 : decode cX5_isFirst 14 = .ok (.ifCond .eq 20, 3) := by decide +kernel
theorem dX5_isFirst_17 : decode cX5_isFirst 17 = .ok (.aload_n 0, 1) := by decide +kernel
theorem dX5_isFirst_18 : decode cX5_isFirst 18 = .ok (.iload_n 1, 1) := by decide +kernel
theorem dX5_isFirst_19 : decode cX5_isFirst 19 = .ok (.iload_n 3, 1) := by decide +kernel
theorem dX5_isFirst_20 : decode cX5_isFirst 20 = .ok (.invokevirtual 29, 3) := by decide +kernel
theorem dX5_isFirst_23 : decode cX5_isFirst 23 = .ok (.aload_n 0, 1) := by decide +kernel
theorem dX5_isFirst_24 : decode cX5_isFirst 24 = .ok (.iload_n 1, 1) := by decide +kernel
theorem dX5_isFirst_25 : decode cX5_isFirst 25 = .ok (.iload_n 2, 1) := by decide +kernel
theorem dX5_isFirst_26 : decode cX5_isFirst 26 = .ok (.invokevirtual 29, 3) := by decide +kernel
theorem dX5_isFirst_29 : decode cX5_isFirst 29 = .ok (.if_icmp .ge 5, 3) := by decide +kernel
theorem dX5_isFirst_32 : decode cX5_isFirst 32 = .ok (.iconst 0, 1) := by decide +kernel
theorem dX5_isFirst_33 : decode cX5_isFirst 33 = .ok (.ireturn, 1) := by decide +kernel
theorem dX5_isFirst_34 : decode cX5_isFirst 34 = .ok (.iinc 3 1, 3) := by decide +kernel
theorem dX5_isFirst_37 : decode cX5_isFirst 37 = .ok (.goto (-35), 3) := by decide +kernel
theorem dX5_isFirst_40 : decode cX5_isFirst 40 = .ok (.iconst 1, 1) := by decide +kernel
theorem dX5_isFirst_41 : decode cX5_isFirst 41 = .ok (.ireturn, 1) := by decide +kernel
theorem dX5_isFair_0 : decode cX5_isFair 0 = .ok (.iconst 0, 1) := by decide +kernel
theorem dX5_isFair_1 : decode cX5_isFair 1 = .ok (.istore_n 2, 1) := by decide +kernel
theorem dX5_isFair_2 : decode cX5_isFair 2 = .ok (.iconst 0, 1) := by decide +kernel
theorem dX5_isFair_3 : decode cX5_isFair 3 = .ok (.istore_n 3, 1) := by decide +kernel
theorem dX5_isFair_4 : decode cX5_isFair 4 = .ok (.iconst 0, 1) := by decide +kernel
theorem dX5_isFair_5 : decode cX5_isFair 5 = .ok (.istore 4, 2) := by decide +kernel
theorem dX5_isFair_7 : decode cX5_isFair 7 = .ok (.iload 4, 2) := by decide +kernel
theorem dX5_isFair_9 : decode cX5_isFair 9 = .ok (.aload_n 0, 1) := by decide +kernel
theorem dX5_isFair_10 : decode cX5_isFair 10 = .ok (.getfield 15, 3) := by decide +kernel
theorem dX5_isFair_13 : decode cX5_isFair 13 = .ok (.if_icmp .ge 40, 3) := by decide +kernel
theorem dX5_isFair_16 : decode cX5_isFair 16 = .ok (.aload_n 0, 1) := by decide +kernel
theorem dX5_isFair_17 : decode cX5_isFair 17 = .ok (.iload 4, 2) := by decide +kernel
theorem dX5_isFair_19 : decode cX5_isFair 19 = .ok (.iload_n 1, 1) := by decide +kernel
theorem dX5_isFair_20 : decode cX5_isFair 20 = .ok (.invokevirtual 29, 3) := by decide +kernel
theorem dX5_isFair_23 : decode cX5_isFair 23 = .ok (.ifCond .eq 24, 3) := by decide +kernel
theorem dX5_isFair_26 : decode cX5_isFair 26 = .ok (.iinc 2 1, 3) := by decide +kernel
theorem dX5_isFair_29 : decode cX5_isFair 29 = .ok (.iload_n 3, 1) := by decide +kernel
theorem dX5_isFair_30 : decode cX5_isFair 30 = .ok (.aload_n 0, 1) := by decide +kernel
theorem dX5_isFair_31 : decode cX5_isFair 31 = .ok (.iload 4, 2) := by decide +kernel
theorem dX5_isFair_33 : decode cX5_isFair 33 = .ok (.iload_n 1, 1) := by decide +kernel
theorem dX5_isFair_34 : decode cX5_isFair 34 = .ok (.invokevirtual 33, 3) := by decide +kernel
theorem dX5_isFair_37 : decode cX5_isFair 37 = .ok (.ifCond .eq 7, 3) := by decide +kernel
theorem dX5_isFair_40 : decode cX5_isFair 40 = .ok (.iconst 1, 1) := by decide +kernel
theorem dX5_isFair_41 : decode cX5_isFair 41 = .ok (.goto 4, 3) := by decide +kernel
theorem dX5_isFair_44 : decode cX5_isFair 44 = .ok (.iconst 0, 1) := by decide +kernel
theorem dX5_isFair_45 : decode cX5_isFair 45 = .ok (.iadd, 1) := by decide +kernel
theorem dX5_isFair_46 : decode cX5_isFair 46 = .ok (.istore_n 3, 1) := by decide +kernel
theorem dX5_isFair_47 : decode cX5_isFair 47 = .ok (.iinc 4 1, 3) := by decide +kernel
theorem dX5_isFair_50 : decode cX5_isFair 50 = .ok (.goto (-43), 3) := by decide +kernel
theorem dX5_isFair_53 : decode cX5_isFair 53 = .ok (.iload_n 2, 1) := by decide +kernel
theorem dX5_isFair_54 : decode cX5_isFair 54 = .ok (.ifCond .le 14, 3) := by decide +kernel
theorem dX5_isFair_57 : decode cX5_isFair 57 = .ok (.iconst 2, 1) := by decide +kernel
theorem dX5_isFair_58 : decode cX5_isFair 58 = .ok (.iload_n 3, 1) := by decide +kernel
theorem dX5_isFair_59 : decode cX5_isFair 59 = .ok (.imul, 1) := by decide +kernel
theorem dX5_isFair_60 : decode cX5_isFair 60 = .ok (.iload_n 2, 1) := by decide +kernel
theorem dX5_isFair_61 : decode cX5_isFair 61 = .ok (.if_icmp .lt 7, 3) := by decide +kernel
theorem dX5_isFair_64 : decode cX5_isFair 64 = .ok (.iconst 1, 1) := by decide +kernel
theorem dX5_isFair_65 : decode cX5_isFair 65 = .ok (.goto 4, 3) := by decide +kernel
theorem dX5_isFair_68 : decode cX5_isFair 68 = .ok (.iconst 0, 1) := by decide +kernel
theorem dX5_isFair_69 : decode cX5_isFair 69 = .ok (.ireturn, 1) := by decide +kernel
theorem dX6_isOperand_0 : decode cX6_isOperand 0 = .ok (.iload_n 0, 1) := by decide +kernel
theorem dX6_isOperand_1 : decode cX6_isOperand 1 = .ok (.ifCond .lt 14, 3) := by decide +kernel
theorem dX6_isOperand_4 : decode cX6_isOperand 4 = .ok (.iload_n 0, 1) := by decide +kernel
theorem dX6_isOperand_5 : decode cX6_isOperand 5 = .ok (.sipush 10006, 3) := by decide +kernel
theorem dX6_isOperand_8 : decode cX6_isOperand 8 = .ok (.if_icmp .ge 7, 3) := by decide +kernel
theorem dX6_isOperand_11 : decode cX6_isOperand 11 = .ok (.iconst 1, 1) := by decide +kernel
theorem dX6_isOperand_12 : decode cX6_isOperand 12 = .ok (.goto 4, 3) := by decide +kernel
theorem dX6_isOperand_15 : decode cX6_isOperand 15 = .ok (.iconst 0, 1) := by decide +kernel
theorem dX6_isOperand_16 : decode cX6_isOperand 16 = .ok (.ireturn, 1) := by decide +kernel
theorem dX6_joined_0 : decode cX6_joined 0 = .ok (.iload_n 0, 1) := by decide +kernel
theorem dX6_joined_1 : decode cX6_joined 1 = .ok (.lookupswitch 116 #[(10009, 99), (20042, 67), (20043, 59), (20045, 63), (20060, 71), (20061, 85)], 59) := by decide +kernel
theorem dX6_joined_60 : decode cX6_joined 60 = .ok (.iload_n 1, 1) := by decide +kernel
theorem dX6_joined_61 : decode cX6_joined 61 = .ok (.iload_n 2, 1) := by decide +kernel
theorem dX6_joined_62 : decode cX6_joined 62 = .ok (.iadd, 1) := by decide +kernel
theorem dX6_joined_63 : decode cX6_joined 63 = .ok (.ireturn, 1) := by decide +kernel
theorem dX6_joined_64 : decode cX6_joined 64 = .ok (.iload_n 1, 1) := by decide +kernel
theorem dX6_joined_65 : decode cX6_joined 65 = .ok (.iload_n 2, 1) := by decide +kernel
theorem dX6_joined_66 : decode cX6_joined 66 = .ok (.isub, 1) := by decide +kernel
theorem dX6_joined_67 : decode cX6_joined 67 = .ok (.ireturn, 1) := by decide +kernel
theorem dX6_joined_68 : decode cX6_joined 68 = .ok (.iload_n 1, 1) := by decide +kernel
theorem dX6_joined_69 : decode cX6_joined 69 = .ok (.iload_n 2, 1) := by decide +kernel
theorem dX6_joined_70 : decode cX6_joined 70 = .ok (.imul, 1) := by decide +kernel
theorem dX6_joined_71 : decode cX6_joined 71 = .ok (.ireturn, 1) := by decide +kernel
theorem dX6_joined_72 : decode cX6_joined 72 = .ok (.iload_n 1, 1) := by decide +kernel
theorem dX6_joined_73 : decode cX6_joined 73 = .ok (.iload_n 2, 1) := by decide +kernel
theorem dX6_joined_74 : decode cX6_joined 74 = .ok (.if_icmp .ge 7, 3) := by decide +kernel
theorem dX6_joined_77 : decode cX6_joined 77 = .ok (.iconst 1, 1) := by decide +kernel
theorem dX6_joined_78 : decode cX6_joined 78 = .ok (.goto 4, 3) := by decide +kernel
theorem dX6_joined_81 : decode cX6_joined 81 = .ok (.iconst 0, 1) := by decide +kernel
theorem dX6_joined_82 : decode cX6_joined 82 = .ok (.istore_n 3, 1) := by decide +kernel
theorem dX6_joined_83 : decode cX6_joined 83 = .ok (.goto 48, 3) := by decide +kernel
theorem dX6_joined_86 : decode cX6_joined 86 = .ok (.iload_n 1, 1) := by decide +kernel
theorem dX6_joined_87 : decode cX6_joined 87 = .ok (.iload_n 2, 1) := by decide +kernel
theorem dX6_joined_88 : decode cX6_joined 88 = .ok (.if_icmp .ne 7, 3) := by decide +kernel
theorem dX6_joined_91 : decode cX6_joined 91 = .ok (.iconst 1, 1) := by decide +kernel
theorem dX6_joined_92 : decode cX6_joined 92 = .ok (.goto 4, 3) := by decide +kernel
theorem dX6_joined_95 : decode cX6_joined 95 = .ok (.iconst 0, 1) := by decide +kernel
theorem dX6_joined_96 : decode cX6_joined 96 = .ok (.istore_n 3, 1) := by decide +kernel
theorem dX6_joined_97 : decode cX6_joined 97 = .ok (.goto 34, 3) := by decide +kernel
theorem dX6_joined_100 : decode cX6_joined 100 = .ok (.iload_n 1, 1) := by decide +kernel
theorem dX6_joined_101 : decode cX6_joined 101 = .ok (.ifCond .eq 11, 3) := by decide +kernel
theorem dX6_joined_104 : decode cX6_joined 104 = .ok (.iload_n 2, 1) := by decide +kernel
theorem dX6_joined_105 : decode cX6_joined 105 = .ok (.ifCond .eq 7, 3) := by decide +kernel
theorem dX6_joined_108 : decode cX6_joined 108 = .ok (.iconst 1, 1) := by decide +kernel
theorem dX6_joined_109 : decode cX6_joined 109 = .ok (.goto 4, 3) := by decide +kernel
theorem dX6_joined_112 : decode cX6_joined 112 = .ok (.iconst 0, 1) := by decide +kernel
theorem dX6_joined_113 : decode cX6_joined 113 = .ok (.istore_n 3, 1) := by decide +kernel
theorem dX6_joined_114 : decode cX6_joined 114 = .ok (.goto 17, 3) := by decide +kernel
theorem dX6_joined_117 : decode cX6_joined 117 = .ok (.iload_n 1, 1) := by decide +kernel
theorem dX6_joined_118 : decode cX6_joined 118 = .ok (.ifCond .ne 7, 3) := by decide +kernel
theorem dX6_joined_121 : decode cX6_joined 121 = .ok (.iload_n 2, 1) := by decide +kernel
theorem dX6_joined_122 : decode cX6_joined 122 = .ok (.ifCond .eq 7, 3) := by decide +kernel
theorem dX6_joined_125 : decode cX6_joined 125 = .ok (.iconst 1, 1) := by decide +kernel
theorem dX6_joined_126 : decode cX6_joined 126 = .ok (.goto 4, 3) := by decide +kernel
theorem dX6_joined_129 : decode cX6_joined 129 = .ok (.iconst 0, 1) := by decide +kernel
theorem dX6_joined_130 : decode cX6_joined 130 = .ok (.istore_n 3, 1) := by decide +kernel
theorem dX6_joined_131 : decode cX6_joined 131 = .ok (.iload_n 3, 1) := by decide +kernel
theorem dX6_joined_132 : decode cX6_joined 132 = .ok (.ifCond .eq 7, 3) := by decide +kernel
theorem dX6_joined_135 : decode cX6_joined 135 = .ok (.iconst 1, 1) := by decide +kernel
theorem dX6_joined_136 : decode cX6_joined 136 = .ok (.goto 4, 3) := by decide +kernel
theorem dX6_joined_139 : decode cX6_joined 139 = .ok (.iconst 0, 1) := by decide +kernel
theorem dX6_joined_140 : decode cX6_joined 140 = .ok (.ireturn, 1) := by decide +kernel
theorem dX6_valueOf_0 : decode cX6_valueOf 0 = .ok (.iload_n 1, 1) := by decide +kernel
theorem dX6_valueOf_1 : decode cX6_valueOf 1 = .ok (.ifCond .eq 7, 3) := by decide +kernel
theorem dX6_valueOf_4 : decode cX6_valueOf 4 = .ok (.iconst 0, 1) := by decide +kernel
theorem dX6_valueOf_5 : decode cX6_valueOf 5 = .ok (.goto 7, 3) := by decide +kernel
theorem dX6_valueOf_8 : decode cX6_valueOf 8 = .ok (.aload_n 0, 1) := by decide +kernel
theorem dX6_valueOf_9 : decode cX6_valueOf 9 = .ok (.getfield 13, 3) := by decide +kernel
theorem dX6_valueOf_12 : decode cX6_valueOf 12 = .ok (.istore 4, 2) := by decide +kernel
theorem dX6_valueOf_14 : decode cX6_valueOf 14 = .ok (.iload_n 1, 1) := by decide +kernel
theorem dX6_valueOf_15 : decode cX6_valueOf 15 = .ok (.ifCond .eq 10, 3) := by decide +kernel
theorem dX6_valueOf_18 : decode cX6_valueOf 18 = .ok (.aload_n 0, 1) := by decide +kernel
theorem dX6_valueOf_19 : decode cX6_valueOf 19 = .ok (.getfield 13, 3) := by decide +kernel
theorem dX6_valueOf_22 : decode cX6_valueOf 22 = .ok (.goto 8, 3) := by decide +kernel
theorem dX6_valueOf_25 : decode cX6_valueOf 25 = .ok (.aload_n 0, 1) := by decide +kernel
theorem dX6_valueOf_26 : decode cX6_valueOf 26 = .ok (.getfield 9, 3) := by decide +kernel
theorem dX6_valueOf_29 : decode cX6_valueOf 29 = .ok (.arraylength, 1) := by decide +kernel
theorem dX6_valueOf_30 : decode cX6_valueOf 30 = .ok (.istore 5, 2) := by decide +kernel
theorem dX6_valueOf_32 : decode cX6_valueOf 32 = .ok (.iconst 0, 1) := by decide +kernel
theorem dX6_valueOf_33 : decode cX6_valueOf 33 = .ok (.istore 6, 2) := by decide +kernel
theorem dX6_valueOf_35 : decode cX6_valueOf 35 = .ok (.iconst 0, 1) := by decide +kernel
theorem dX6_valueOf_36 : decode cX6_valueOf 36 = .ok (.istore 7, 2) := by decide +kernel
theorem dX6_valueOf_38 : decode cX6_valueOf 38 = .ok (.iload 4, 2) := by decide +kernel
theorem dX6_valueOf_40 : decode cX6_valueOf 40 = .ok (.istore 8, 2) := by decide +kernel
theorem dX6_valueOf_42 : decode cX6_valueOf 42 = .ok (.iload 8, 2) := by decide +kernel
theorem dX6_valueOf_44 : decode cX6_valueOf 44 = .ok (.iload 5, 2) := by decide +kernel
theorem dX6_valueOf_46 : decode cX6_valueOf 46 = .ok (.if_icmp .ge 128, 3) := by decide +kernel
theorem dX6_valueOf_49 : decode cX6_valueOf 49 = .ok (.aload_n 0, 1) := by decide +kernel
theorem dX6_valueOf_50 : decode cX6_valueOf 50 = .ok (.getfield 9, 3) := by decide +kernel
theorem dX6_valueOf_53 : decode cX6_valueOf 53 = .ok (.iload 8, 2) := by decide +kernel
theorem dX6_valueOf_55 : decode cX6_valueOf 55 = .ok (.iaload, 1) := by decide +kernel
theorem dX6_valueOf_56 : decode cX6_valueOf 56 = .ok (.istore 9, 2) := by decide +kernel
theorem dX6_valueOf_58 : decode cX6_valueOf 58 = .ok (.iload 9, 2) := by decide +kernel
theorem dX6_valueOf_60 : decode cX6_valueOf 60 = .ok (.invokestatic 17, 3) := by decide +kernel
theorem dX6_valueOf_63 : decode cX6_valueOf 63 = .ok (.ifCond .eq 45, 3) := by decide +kernel
theorem dX6_valueOf_66 : decode cX6_valueOf 66 = .ok (.iload 7, 2) := by decide +kernel
theorem dX6_valueOf_68 : decode cX6_valueOf 68 = .ok (.aload_n 3, 1) := by decide +kernel
theorem dX6_valueOf_69 : decode cX6_valueOf 69 = .ok (.arraylength, 1) := by decide +kernel
theorem dX6_valueOf_70 : decode cX6_valueOf 70 = .ok (.if_icmp .ge 12, 3) := by decide +kernel
theorem dX6_valueOf_73 : decode cX6_valueOf 73 = .ok (.aload_n 3, 1) := by decide +kernel
theorem dX6_valueOf_74 : decode cX6_valueOf 74 = .ok (.iload 7, 2) := by decide +kernel
theorem dX6_valueOf_76 : decode cX6_valueOf 76 = .ok (.iload 6, 2) := by decide +kernel
theorem dX6_valueOf_78 : decode cX6_valueOf 78 = .ok (.iastore, 1) := by decide +kernel
theorem dX6_valueOf_79 : decode cX6_valueOf 79 = .ok (.iinc 7 1, 3) := by decide +kernel
theorem dX6_valueOf_82 : decode cX6_valueOf 82 = .ok (.iload 9, 2) := by decide +kernel
theorem dX6_valueOf_84 : decode cX6_valueOf 84 = .ok (.sipush 10000, 3) := by decide +kernel
theorem dX6_valueOf_87 : decode cX6_valueOf 87 = .ok (.if_icmp .ge 8, 3) := by decide +kernel
theorem dX6_valueOf_90 : decode cX6_valueOf 90 = .ok (.iload 9, 2) := by decide +kernel
theorem dX6_valueOf_92 : decode cX6_valueOf 92 = .ok (.goto 11, 3) := by decide +kernel
theorem dX6_valueOf_95 : decode cX6_valueOf 95 = .ok (.aload_n 2, 1) := by decide +kernel
theorem dX6_valueOf_96 : decode cX6_valueOf 96 = .ok (.iload 9, 2) := by decide +kernel
theorem dX6_valueOf_98 : decode cX6_valueOf 98 = .ok (.sipush 10000, 3) := by decide +kernel
theorem dX6_valueOf_101 : decode cX6_valueOf 101 = .ok (.isub, 1) := by decide +kernel
theorem dX6_valueOf_102 : decode cX6_valueOf 102 = .ok (.iaload, 1) := by decide +kernel
theorem dX6_valueOf_103 : decode cX6_valueOf 103 = .ok (.istore 6, 2) := by decide +kernel
theorem dX6_valueOf_105 : decode cX6_valueOf 105 = .ok (.goto 63, 3) := by decide +kernel
theorem dX6_valueOf_108 : decode cX6_valueOf 108 = .ok (.iload 9, 2) := by decide +kernel
theorem dX6_valueOf_110 : decode cX6_valueOf 110 = .ok (.sipush 30000, 3) := by decide +kernel
theorem dX6_valueOf_113 : decode cX6_valueOf 113 = .ok (.if_icmp .ne 11, 3) := by decide +kernel
theorem dX6_valueOf_116 : decode cX6_valueOf 116 = .ok (.iload 6, 2) := by decide +kernel
theorem dX6_valueOf_118 : decode cX6_valueOf 118 = .ok (.ineg, 1) := by decide +kernel
theorem dX6_valueOf_119 : decode cX6_valueOf 119 = .ok (.istore 6, 2) := by decide +kernel
theorem dX6_valueOf_121 : decode cX6_valueOf 121 = .ok (.goto 47, 3) := by decide +kernel
theorem dX6_valueOf_124 : decode cX6_valueOf 124 = .ok (.iload 9, 2) := by decide +kernel
theorem dX6_valueOf_126 : decode cX6_valueOf 126 = .ok (.sipush 10010, 3) := by decide +kernel
theorem dX6_valueOf_129 : decode cX6_valueOf 129 = .ok (.if_icmp .ne 18, 3) := by decide +kernel
theorem dX6_valueOf_132 : decode cX6_valueOf 132 = .ok (.iload 6, 2) := by decide +kernel
theorem dX6_valueOf_134 : decode cX6_valueOf 134 = .ok (.ifCond .ne 7, 3) := by decide +kernel
theorem dX6_valueOf_137 : decode cX6_valueOf 137 = .ok (.iconst 1, 1) := by decide +kernel
theorem dX6_valueOf_138 : decode cX6_valueOf 138 = .ok (.goto 4, 3) := by decide +kernel
theorem dX6_valueOf_141 : decode cX6_valueOf 141 = .ok (.iconst 0, 1) := by decide +kernel
theorem dX6_valueOf_142 : decode cX6_valueOf 142 = .ok (.istore 6, 2) := by decide +kernel
theorem dX6_valueOf_144 : decode cX6_valueOf 144 = .ok (.goto 24, 3) := by decide +kernel
theorem dX6_valueOf_147 : decode cX6_valueOf 147 = .ok (.iload 7, 2) := by decide +kernel
theorem dX6_valueOf_149 : decode cX6_valueOf 149 = .ok (.ifCond .le 19, 3) := by decide +kernel
theorem dX6_valueOf_152 : decode cX6_valueOf 152 = .ok (.iinc 7 (-1), 3) := by decide +kernel
theorem dX6_valueOf_155 : decode cX6_valueOf 155 = .ok (.iload 9, 2) := by decide +kernel
theorem dX6_valueOf_157 : decode cX6_valueOf 157 = .ok (.aload_n 3, 1) := by decide +kernel
theorem dX6_valueOf_158 : decode cX6_valueOf 158 = .ok (.iload 7, 2) := by decide +kernel
theorem dX6_valueOf_160 : decode cX6_valueOf 160 = .ok (.iaload, 1) := by decide +kernel
theorem dX6_valueOf_161 : decode cX6_valueOf 161 = .ok (.iload 6, 2) := by decide +kernel
theorem dX6_valueOf_163 : decode cX6_valueOf 163 = .ok (.invokestatic 21, 3) := by decide +kernel
theorem dX6_valueOf_166 : decode cX6_valueOf 166 = .ok (.istore 6, 2) := by decide +kernel
theorem dX6_valueOf_168 : decode cX6_valueOf 168 = .ok (.iinc 8 1, 3) := by decide +kernel
theorem dX6_valueOf_171 : decode cX6_valueOf 171 = .ok (.goto (-129), 3) := by decide +kernel
theorem dX6_valueOf_174 : decode cX6_valueOf 174 = .ok (.iload 6, 2) := by decide +kernel
theorem dX6_valueOf_176 : decode cX6_valueOf 176 = .ok (.ireturn, 1) := by decide +kernel
theorem dX7_has_0 : decode cX7_has 0 = .ok (.iload_n 1, 1) := by decide +kernel
theorem dX7_has_1 : decode cX7_has 1 = .ok (.ifCond .lt 12, 3) := by decide +kernel
theorem dX7_has_4 : decode cX7_has 4 = .ok (.iload_n 1, 1) := by decide +kernel
theorem dX7_has_5 : decode cX7_has 5 = .ok (.iconst 4, 1) := by decide +kernel
theorem dX7_has_6 : decode cX7_has 6 = .ok (.if_icmp .ge 7, 3) := by decide +kernel
theorem dX7_has_9 : decode cX7_has 9 = .ok (.iconst 1, 1) := by decide +kernel
theorem dX7_has_10 : decode cX7_has 10 = .ok (.goto 4, 3) := by decide +kernel
theorem dX7_has_13 : decode cX7_has 13 = .ok (.iconst 0, 1) := by decide +kernel
theorem dX7_has_14 : decode cX7_has 14 = .ok (.ireturn, 1) := by decide +kernel
theorem dX7_isMissing_0 : decode cX7_isMissing 0 = .ok (.aload_n 0, 1) := by decide +kernel
theorem dX7_isMissing_1 : decode cX7_isMissing 1 = .ok (.getfield 9, 3) := by decide +kernel
theorem dX7_isMissing_4 : decode cX7_isMissing 4 = .ok (.iload_n 1, 1) := by decide +kernel
theorem dX7_isMissing_5 : decode cX7_isMissing 5 = .ok (.iaload, 1) := by decide +kernel
theorem dX7_isMissing_6 : decode cX7_isMissing 6 = .ok (.iconst (-1), 1) := by decide +kernel
theorem dX7_isMissing_7 : decode cX7_isMissing 7 = .ok (.if_icmp .ne 7, 3) := by decide +kernel
theorem dX7_isMissing_10 : decode cX7_isMissing 10 = .ok (.iconst 1, 1) := by decide +kernel
theorem dX7_isMissing_11 : decode cX7_isMissing 11 = .ok (.goto 4, 3) := by decide +kernel
theorem dX7_isMissing_14 : decode cX7_isMissing 14 = .ok (.iconst 0, 1) := by decide +kernel
theorem dX7_isMissing_15 : decode cX7_isMissing 15 = .ok (.ireturn, 1) := by decide +kernel
theorem dX7_isSort_0 : decode cX7_isSort 0 = .ok (.iload_n 0, 1) := by decide +kernel
theorem dX7_isSort_1 : decode cX7_isSort 1 = .ok (.ifCond .lt 12, 3) := by decide +kernel
theorem dX7_isSort_4 : decode cX7_isSort 4 = .ok (.iload_n 0, 1) := by decide +kernel
theorem dX7_isSort_5 : decode cX7_isSort 5 = .ok (.iconst 2, 1) := by decide +kernel
theorem dX7_isSort_6 : decode cX7_isSort 6 = .ok (.if_icmp .gt 7, 3) := by decide +kernel
theorem dX7_isSort_9 : decode cX7_isSort 9 = .ok (.iconst 1, 1) := by decide +kernel
theorem dX7_isSort_10 : decode cX7_isSort 10 = .ok (.goto 4, 3) := by decide +kernel
theorem dX7_isSort_13 : decode cX7_isSort 13 = .ok (.iconst 0, 1) := by decide +kernel
theorem dX7_isSort_14 : decode cX7_isSort 14 = .ok (.ireturn, 1) := by decide +kernel
theorem dJ7_fill_53178_0 : decode cJ7_fill_53178 0 = .ok (.iconst 0, 1) := by decide +kernel
theorem dJ7_fill_53178_1 : decode cJ7_fill_53178 1 = .ok (.istore_n 2, 1) := by decide +kernel
theorem dJ7_fill_53178_2 : decode cJ7_fill_53178 2 = .ok (.aload_n 0, 1) := by decide +kernel
theorem dJ7_fill_53178_3 : decode cJ7_fill_53178 3 = .ok (.arraylength, 1) := by decide +kernel
theorem dJ7_fill_53178_4 : decode cJ7_fill_53178 4 = .ok (.istore_n 3, 1) := by decide +kernel
theorem dJ7_fill_53178_5 : decode cJ7_fill_53178 5 = .ok (.iload_n 2, 1) := by decide +kernel
theorem dJ7_fill_53178_6 : decode cJ7_fill_53178 6 = .ok (.iload_n 3, 1) := by decide +kernel
theorem dJ7_fill_53178_7 : decode cJ7_fill_53178 7 = .ok (.if_icmp .ge 13, 3) := by decide +kernel
theorem dJ7_fill_53178_10 : decode cJ7_fill_53178 10 = .ok (.aload_n 0, 1) := by decide +kernel
theorem dJ7_fill_53178_11 : decode cJ7_fill_53178 11 = .ok (.iload_n 2, 1) := by decide +kernel
theorem dJ7_fill_53178_12 : decode cJ7_fill_53178 12 = .ok (.iload_n 1, 1) := by decide +kernel
theorem dJ7_fill_53178_13 : decode cJ7_fill_53178 13 = .ok (.iastore, 1) := by decide +kernel
theorem dJ7_fill_53178_14 : decode cJ7_fill_53178 14 = .ok (.iinc 2 1, 3) := by decide +kernel
theorem dJ7_fill_53178_17 : decode cJ7_fill_53178 17 = .ok (.goto (-12), 3) := by decide +kernel
theorem dJ7_fill_53178_20 : decode cJ7_fill_53178 20 = .ok (.return_, 1) := by decide +kernel
theorem dX7_renew_0 : decode cX7_renew 0 = .ok (.aload_n 0, 1) := by decide +kernel
theorem dX7_renew_1 : decode cX7_renew 1 = .ok (.getfield 9, 3) := by decide +kernel
theorem dX7_renew_4 : decode cX7_renew 4 = .ok (.iload_n 1, 1) := by decide +kernel
theorem dX7_renew_5 : decode cX7_renew 5 = .ok (.iload_n 2, 1) := by decide +kernel
theorem dX7_renew_6 : decode cX7_renew 6 = .ok (.iastore, 1) := by decide +kernel
theorem dX7_renew_7 : decode cX7_renew 7 = .ok (.aload_n 0, 1) := by decide +kernel
theorem dX7_renew_8 : decode cX7_renew 8 = .ok (.getfield 13, 3) := by decide +kernel
theorem dX7_renew_11 : decode cX7_renew 11 = .ok (.iload_n 1, 1) := by decide +kernel
theorem dX7_renew_12 : decode cX7_renew 12 = .ok (.iload_n 3, 1) := by decide +kernel
theorem dX7_renew_13 : decode cX7_renew 13 = .ok (.iastore, 1) := by decide +kernel
theorem dX7_renew_14 : decode cX7_renew 14 = .ok (.aload_n 0, 1) := by decide +kernel
theorem dX7_renew_15 : decode cX7_renew 15 = .ok (.getfield 18, 3) := by decide +kernel
theorem dX7_renew_18 : decode cX7_renew 18 = .ok (.iload_n 1, 1) := by decide +kernel
theorem dX7_renew_19 : decode cX7_renew 19 = .ok (.aaload, 1) := by decide +kernel
theorem dX7_renew_20 : decode cX7_renew 20 = .ok (.iconst 0, 1) := by decide +kernel
theorem dX7_renew_21 : decode cX7_renew 21 = .ok (.invokestatic 21, 3) := by decide +kernel
theorem dX7_renew_24 : decode cX7_renew 24 = .ok (.return_, 1) := by decide +kernel
theorem dX7_holds_0 : decode cX7_holds 0 = .ok (.iload_n 2, 1) := by decide +kernel
theorem dX7_holds_1 : decode cX7_holds 1 = .ok (.ifCond .lt 33, 3) := by decide +kernel
theorem dX7_holds_4 : decode cX7_holds 4 = .ok (.iload_n 3, 1) := by decide +kernel
theorem dX7_holds_5 : decode cX7_holds 5 = .ok (.ifCond .lt 29, 3) := by decide +kernel
theorem dX7_holds_8 : decode cX7_holds 8 = .ok (.iload_n 3, 1) := by decide +kernel
theorem dX7_holds_9 : decode cX7_holds 9 = .ok (.aload_n 0, 1) := by decide +kernel
theorem dX7_holds_10 : decode cX7_holds 10 = .ok (.getfield 13, 3) := by decide +kernel
theorem dX7_holds_13 : decode cX7_holds 13 = .ok (.iload_n 1, 1) := by decide +kernel
theorem dX7_holds_14 : decode cX7_holds 14 = .ok (.iaload, 1) := by decide +kernel
theorem dX7_holds_15 : decode cX7_holds 15 = .ok (.if_icmp .gt 19, 3) := by decide +kernel
theorem dX7_holds_18 : decode cX7_holds 18 = .ok (.iload_n 2, 1) := by decide +kernel
theorem dX7_holds_19 : decode cX7_holds 19 = .ok (.aload_n 0, 1) := by decide +kernel
theorem dX7_holds_20 : decode cX7_holds 20 = .ok (.getfield 13, 3) := by decide +kernel
theorem dX7_holds_23 : decode cX7_holds 23 = .ok (.iload_n 1, 1) := by decide +kernel
theorem dX7_holds_24 : decode cX7_holds 24 = .ok (.iaload, 1) := by decide +kernel
theorem dX7_holds_25 : decode cX7_holds 25 = .ok (.iload_n 3, 1) := by decide +kernel
theorem dX7_holds_26 : decode cX7_holds 26 = .ok (.isub, 1) := by decide +kernel
theorem dX7_holds_27 : decode cX7_holds 27 = .ok (.if_icmp .gt 7, 3) := by decide +kernel
theorem dX7_holds_30 : decode cX7_holds 30 = .ok (.iconst 1, 1) := by decide +kernel
theorem dX7_holds_31 : decode cX7_holds 31 = .ok (.goto 4, 3) := by decide +kernel
theorem dX7_holds_34 : decode cX7_holds 34 = .ok (.iconst 0, 1) := by decide +kernel
theorem dX7_holds_35 : decode cX7_holds 35 = .ok (.ireturn, 1) := by decide +kernel
theorem dX7_put_0 : decode cX7_put 0 = .ok (.aload_n 0, 1) := by decide +kernel
theorem dX7_put_1 : decode cX7_put 1 = .ok (.getfield 9, 3) := by decide +kernel
theorem dX7_put_4 : decode cX7_put 4 = .ok (.iload_n 1, 1) := by decide +kernel
theorem dX7_put_5 : decode cX7_put 5 = .ok (.iaload, 1) := by decide +kernel
theorem dX7_put_6 : decode cX7_put 6 = .ok (.lookupswitch 52 #[(0, 26), (1, 39)], 26) := by decide +kernel
theorem dX7_put_32 : decode cX7_put 32 = .ok (.aload_n 0, 1) := by decide +kernel
theorem dX7_put_33 : decode cX7_put 33 = .ok (.getfield 18, 3) := by decide +kernel
theorem dX7_put_36 : decode cX7_put 36 = .ok (.iload_n 1, 1) := by decide +kernel
theorem dX7_put_37 : decode cX7_put 37 = .ok (.aaload, 1) := by decide +kernel
theorem dX7_put_38 : decode cX7_put 38 = .ok (.iload_n 2, 1) := by decide +kernel
theorem dX7_put_39 : decode cX7_put 39 = .ok (.iload_n 3, 1) := by decide +kernel
theorem dX7_put_40 : decode cX7_put 40 = .ok (.i2b, 1) := by decide +kernel
theorem dX7_put_41 : decode cX7_put 41 = .ok (.iastore, 1) := by decide +kernel
theorem dX7_put_42 : decode cX7_put 42 = .ok (.goto 25, 3) := by decide +kernel
theorem dX7_put_45 : decode cX7_put 45 = .ok (.aload_n 0, 1) := by decide +kernel
theorem dX7_put_46 : decode cX7_put 46 = .ok (.getfield 18, 3) := by decide +kernel
theorem dX7_put_49 : decode cX7_put 49 = .ok (.iload_n 1, 1) := by decide +kernel
theorem dX7_put_50 : decode cX7_put 50 = .ok (.aaload, 1) := by decide +kernel
theorem dX7_put_51 : decode cX7_put 51 = .ok (.iload_n 2, 1) := by decide +kernel
theorem dX7_put_52 : decode cX7_put 52 = .ok (.iload_n 3, 1) := by decide +kernel
theorem dX7_put_53 : decode cX7_put 53 = .ok (.i2s, 1) := by decide +kernel
theorem dX7_put_54 : decode cX7_put 54 = .ok (.iastore, 1) := by decide +kernel
theorem dX7_put_55 : decode cX7_put 55 = .ok (.goto 12, 3) := by decide +kernel
theorem dX7_put_58 : decode cX7_put 58 = .ok (.aload_n 0, 1) := by decide +kernel
theorem dX7_put_59 : decode cX7_put 59 = .ok (.getfield 18, 3) := by decide +kernel
theorem dX7_put_62 : decode cX7_put 62 = .ok (.iload_n 1, 1) := by decide +kernel
theorem dX7_put_63 : decode cX7_put 63 = .ok (.aaload, 1) := by decide +kernel
theorem dX7_put_64 : decode cX7_put 64 = .ok (.iload_n 2, 1) := by decide +kernel
theorem dX7_put_65 : decode cX7_put 65 = .ok (.iload_n 3, 1) := by decide +kernel
theorem dX7_put_66 : decode cX7_put 66 = .ok (.iastore, 1) := by decide +kernel
theorem dX7_put_67 : decode cX7_put 67 = .ok (.return_, 1) := by decide +kernel
theorem dX8_add_0 : decode cX8_add 0 = .ok (.iload_n 1, 1) := by decide +kernel
theorem dX8_add_1 : decode cX8_add 1 = .ok (.sipush 160, 3) := by decide +kernel
theorem dX8_add_4 : decode cX8_add 4 = .ok (.aload_n 0, 1) := by decide +kernel
theorem dX8_add_5 : decode cX8_add 5 = .ok (.getfield 15, 3) := by decide +kernel
theorem dX8_add_8 : decode cX8_add 8 = .ok (.isub, 1) := by decide +kernel
theorem dX8_add_9 : decode cX8_add 9 = .ok (.if_icmp .le 6, 3) := by decide +kernel
theorem dX8_add_12 : decode cX8_add 12 = .ok (.bipush (-4), 2) := by decide +kernel
theorem dX8_add_14 : decode cX8_add 14 = .ok (.ireturn, 1) := by decide +kernel
theorem dX8_add_15 : decode cX8_add 15 = .ok (.iconst 0, 1) := by decide +kernel
theorem dX8_add_16 : decode cX8_add 16 = .ok (.istore 4, 2) := by decide +kernel
theorem dX8_add_18 : decode cX8_add 18 = .ok (.iload 4, 2) := by decide +kernel
theorem dX8_add_20 : decode cX8_add 20 = .ok (.iload_n 1, 1) := by decide +kernel
theorem dX8_add_21 : decode cX8_add 21 = .ok (.if_icmp .ge 30, 3) := by decide +kernel
theorem dX8_add_24 : decode cX8_add 24 = .ok (.aload_n 0, 1) := by decide +kernel
theorem dX8_add_25 : decode cX8_add 25 = .ok (.getfield 9, 3) := by decide +kernel
theorem dX8_add_28 : decode cX8_add 28 = .ok (.aload_n 0, 1) := by decide +kernel
theorem dX8_add_29 : decode cX8_add 29 = .ok (.getfield 15, 3) := by decide +kernel
theorem dX8_add_32 : decode cX8_add 32 = .ok (.iload 4, 2) := by decide +kernel
theorem dX8_add_34 : decode cX8_add 34 = .ok (.iadd, 1) := by decide +kernel
theorem dX8_add_35 : decode cX8_add 35 = .ok (.lload_n 2, 1) := by decide +kernel
theorem dX8_add_36 : decode cX8_add 36 = .ok (.bipush 8, 2) := by decide +kernel
theorem dX8_add_38 : decode cX8_add 38 = .ok (.iload 4, 2) := by decide +kernel
theorem dX8_add_40 : decode cX8_add 40 = .ok (.imul, 1) := by decide +kernel
theorem dX8_add_41 : decode cX8_add 41 = .ok (.lshr, 1) := by decide +kernel
theorem dX8_add_42 : decode cX8_add 42 = .ok (.l2i, 1) := by decide +kernel
theorem dX8_add_43 : decode cX8_add 43 = .ok (.i2b, 1) := by decide +kernel
theorem dX8_add_44 : decode cX8_add 44 = .ok (.bastore, 1) := by decide +kernel
theorem dX8_add_45 : decode cX8_add 45 = .ok (.iinc 4 1, 3) := by decide +kernel
theorem dX8_add_48 : decode cX8_add 48 = .ok (.goto (-30), 3) := by decide +kernel
theorem dX8_add_51 : decode cX8_add 51 = .ok (.aload_n 0, 1) := by decide +kernel
theorem dX8_add_52 : decode cX8_add 52 = .ok (.dup, 1) := by decide +kernel
theorem dX8_add_53 : decode cX8_add 53 = .ok (.getfield 15, 3) := by decide +kernel
theorem dX8_add_56 : decode cX8_add 56 = .ok (.iload_n 1, 1) := by decide +kernel
theorem dX8_add_57 : decode cX8_add 57 = .ok (.iadd, 1) := by decide +kernel
theorem dX8_add_58 : decode cX8_add 58 = .ok (.putfield 15, 3) := by decide +kernel
theorem dX8_add_61 : decode cX8_add 61 = .ok (.aload_n 0, 1) := by decide +kernel
theorem dX8_add_62 : decode cX8_add 62 = .ok (.getfield 15, 3) := by decide +kernel
theorem dX8_add_65 : decode cX8_add 65 = .ok (.ireturn, 1) := by decide +kernel
theorem dX8_at_0 : decode cX8_at 0 = .ok (.iload_n 1, 1) := by decide +kernel
theorem dX8_at_1 : decode cX8_at 1 = .ok (.ifCond .lt 24, 3) := by decide +kernel
theorem dX8_at_4 : decode cX8_at 4 = .ok (.iload_n 1, 1) := by decide +kernel
theorem dX8_at_5 : decode cX8_at 5 = .ok (.aload_n 0, 1) := by decide +kernel
theorem dX8_at_6 : decode cX8_at 6 = .ok (.getfield 15, 3) := by decide +kernel
theorem dX8_at_9 : decode cX8_at 9 = .ok (.if_icmp .ge 16, 3) := by decide +kernel
theorem dX8_at_12 : decode cX8_at 12 = .ok (.aload_n 0, 1) := by decide +kernel
theorem dX8_at_13 : decode cX8_at 13 = .ok (.getfield 9, 3) := by decide +kernel
theorem dX8_at_16 : decode cX8_at 16 = .ok (.iload_n 1, 1) := by decide +kernel
theorem dX8_at_17 : decode cX8_at 17 = .ok (.baload, 1) := by decide +kernel
theorem dX8_at_18 : decode cX8_at 18 = .ok (.sipush 255, 3) := by decide +kernel
theorem dX8_at_21 : decode cX8_at 21 = .ok (.iand, 1) := by decide +kernel
theorem dX8_at_22 : decode cX8_at 22 = .ok (.goto 4, 3) := by decide +kernel
theorem dX8_at_25 : decode cX8_at 25 = .ok (.iconst (-1), 1) := by decide +kernel
theorem dX8_at_26 : decode cX8_at 26 = .ok (.ireturn, 1) := by decide +kernel
theorem dX8_digitOf_0 : decode cX8_digitOf 0 = .ok (.iload_n 0, 1) := by decide +kernel
theorem dX8_digitOf_1 : decode cX8_digitOf 1 = .ok (.bipush 48, 2) := by decide +kernel
theorem dX8_digitOf_3 : decode cX8_digitOf 3 = .ok (.if_icmp .lt 16, 3) := by decide +kernel
theorem dX8_digitOf_6 : decode cX8_digitOf 6 = .ok (.iload_n 0, 1) := by decide +kernel
theorem dX8_digitOf_7 : decode cX8_digitOf 7 = .ok (.bipush 57, 2) := by decide +kernel
theorem dX8_digitOf_9 : decode cX8_digitOf 9 = .ok (.if_icmp .gt 10, 3) := by decide +kernel
theorem dX8_digitOf_12 : decode cX8_digitOf 12 = .ok (.iload_n 0, 1) := by decide +kernel
theorem dX8_digitOf_13 : decode cX8_digitOf 13 = .ok (.bipush 48, 2) := by decide +kernel
theorem dX8_digitOf_15 : decode cX8_digitOf 15 = .ok (.isub, 1) := by decide +kernel
theorem dX8_digitOf_16 : decode cX8_digitOf 16 = .ok (.goto 4, 3) := by decide +kernel
theorem dX8_digitOf_19 : decode cX8_digitOf 19 = .ok (.iconst (-1), 1) := by decide +kernel
theorem dX8_digitOf_20 : decode cX8_digitOf 20 = .ok (.ireturn, 1) := by decide +kernel
theorem dX8_isLetter_0 : decode cX8_isLetter 0 = .ok (.iload_n 0, 1) := by decide +kernel
theorem dX8_isLetter_1 : decode cX8_isLetter 1 = .ok (.bipush 97, 2) := by decide +kernel
theorem dX8_isLetter_3 : decode cX8_isLetter 3 = .ok (.if_icmp .lt 13, 3) := by decide +kernel
theorem dX8_isLetter_6 : decode cX8_isLetter 6 = .ok (.iload_n 0, 1) := by decide +kernel
theorem dX8_isLetter_7 : decode cX8_isLetter 7 = .ok (.bipush 122, 2) := by decide +kernel
theorem dX8_isLetter_9 : decode cX8_isLetter 9 = .ok (.if_icmp .gt 7, 3) := by decide +kernel
theorem dX8_isLetter_12 : decode cX8_isLetter 12 = .ok (.iconst 1, 1) := by decide +kernel
theorem dX8_isLetter_13 : decode cX8_isLetter 13 = .ok (.goto 4, 3) := by decide +kernel
theorem dX8_isLetter_16 : decode cX8_isLetter 16 = .ok (.iconst 0, 1) := by decide +kernel
theorem dX8_isLetter_17 : decode cX8_isLetter 17 = .ok (.ireturn, 1) := by decide +kernel
theorem dX8_isBlank_0 : decode cX8_isBlank 0 = .ok (.iload_n 0, 1) := by decide +kernel
theorem dX8_isBlank_1 : decode cX8_isBlank 1 = .ok (.bipush 32, 2) := by decide +kernel
theorem dX8_isBlank_3 : decode cX8_isBlank 3 = .ok (.if_icmp .eq 9, 3) := by decide +kernel
theorem dX8_isBlank_6 : decode cX8_isBlank 6 = .ok (.iload_n 0, 1) := by decide +kernel
theorem dX8_isBlank_7 : decode cX8_isBlank 7 = .ok (.bipush 10, 2) := by decide +kernel
theorem dX8_isBlank_9 : decode cX8_isBlank 9 = .ok (.if_icmp .ne 7, 3) := by decide +kernel
theorem dX8_isBlank_12 : decode cX8_isBlank 12 = .ok (.iconst 1, 1) := by decide +kernel
theorem dX8_isBlank_13 : decode cX8_isBlank 13 = .ok (.goto 4, 3) := by decide +kernel
theorem dX8_isBlank_16 : decode cX8_isBlank 16 = .ok (.iconst 0, 1) := by decide +kernel
theorem dX8_isBlank_17 : decode cX8_isBlank 17 = .ok (.ireturn, 1) := by decide +kernel
theorem dX10_add_0 : decode cX10_add 0 = .ok (.aload_n 0, 1) := by decide +kernel
theorem dX10_add_1 : decode cX10_add 1 = .ok (.getfield 29, 3) := by decide +kernel
theorem dX10_add_4 : decode cX10_add 4 = .ok (.bipush 30, 2) := by decide +kernel
theorem dX10_add_6 : decode cX10_add 6 = .ok (.if_icmp .lt 6, 3) := by decide +kernel
theorem dX10_add_9 : decode cX10_add 9 = .ok (.bipush (-4), 2) := by decide +kernel
theorem dX10_add_11 : decode cX10_add 11 = .ok (.ireturn, 1) := by decide +kernel
theorem dX10_add_12 : decode cX10_add 12 = .ok (.aload_n 0, 1) := by decide +kernel
theorem dX10_add_13 : decode cX10_add 13 = .ok (.getfield 11, 3) := by decide +kernel
theorem dX10_add_16 : decode cX10_add 16 = .ok (.aload_n 0, 1) := by decide +kernel
theorem dX10_add_17 : decode cX10_add 17 = .ok (.getfield 29, 3) := by decide +kernel
theorem dX10_add_20 : decode cX10_add 20 = .ok (.iload_n 1, 1) := by decide +kernel
theorem dX10_add_21 : decode cX10_add 21 = .ok (.iastore, 1) := by decide +kernel
theorem dX10_add_22 : decode cX10_add 22 = .ok (.aload_n 0, 1) := by decide +kernel
theorem dX10_add_23 : decode cX10_add 23 = .ok (.getfield 15, 3) := by decide +kernel
theorem dX10_add_26 : decode cX10_add 26 = .ok (.aload_n 0, 1) := by decide +kernel
theorem dX10_add_27 : decode cX10_add 27 = .ok (.getfield 29, 3) := by decide +kernel
theorem dX10_add_30 : decode cX10_add 30 = .ok (.iload_n 2, 1) := by decide +kernel
theorem dX10_add_31 : decode cX10_add 31 = .ok (.iastore, 1) := by decide +kernel
theorem dX10_add_32 : decode cX10_add 32 = .ok (.aload_n 0, 1) := by decide +kernel
theorem dX10_add_33 : decode cX10_add 33 = .ok (.getfield 18, 3) := by decide +kernel
theorem dX10_add_36 : decode cX10_add 36 = .ok (.aload_n 0, 1) := by decide +kernel
theorem dX10_add_37 : decode cX10_add 37 = .ok (.getfield 29, 3) := by decide +kernel
theorem dX10_add_40 : decode cX10_add 40 = .ok (.iload_n 3, 1) := by decide +kernel
theorem dX10_add_41 : decode cX10_add 41 = .ok (.iastore, 1) := by decide +kernel
theorem dX10_add_42 : decode cX10_add 42 = .ok (.aload_n 0, 1) := by decide +kernel
theorem dX10_add_43 : decode cX10_add 43 = .ok (.getfield 21, 3) := by decide +kernel
theorem dX10_add_46 : decode cX10_add 46 = .ok (.aload_n 0, 1) := by decide +kernel
theorem dX10_add_47 : decode cX10_add 47 = .ok (.getfield 29, 3) := by decide +kernel
theorem dX10_add_50 : decode cX10_add 50 = .ok (.iload 4, 2) := by decide +kernel
theorem dX10_add_52 : decode cX10_add 52 = .ok (.iastore, 1) := by decide +kernel
theorem dX10_add_53 : decode cX10_add 53 = .ok (.aload_n 0, 1) := by decide +kernel
theorem dX10_add_54 : decode cX10_add 54 = .ok (.dup, 1) := by decide +kernel
theorem dX10_add_55 : decode cX10_add 55 = .ok (.getfield 29, 3) := by decide +kernel
theorem dX10_add_58 : decode cX10_add 58 = .ok (.iconst 1, 1) := by decide +kernel
theorem dX10_add_59 : decode cX10_add 59 = .ok (.iadd, 1) := by decide +kernel
theorem dX10_add_60 : decode cX10_add 60 = .ok (.putfield 29, 3) := by decide +kernel
theorem dX10_add_63 : decode cX10_add 63 = .ok (.aload_n 0, 1) := by decide +kernel
theorem dX10_add_64 : decode cX10_add 64 = .ok (.getfield 29, 3) := by decide +kernel
theorem dX10_add_67 : decode cX10_add 67 = .ok (.iconst 1, 1) := by decide +kernel
theorem dX10_add_68 : decode cX10_add 68 = .ok (.isub, 1) := by decide +kernel
theorem dX10_add_69 : decode cX10_add 69 = .ok (.ireturn, 1) := by decide +kernel
theorem dX10_hasAll_0 : decode cX10_hasAll 0 = .ok (.iload_n 1, 1) := by decide +kernel
theorem dX10_hasAll_1 : decode cX10_hasAll 1 = .ok (.ifCond .lt 17, 3) := by decide +kernel
theorem dX10_hasAll_4 : decode cX10_hasAll 4 = .ok (.iload_n 1, 1) := by decide +kernel
theorem dX10_hasAll_5 : decode cX10_hasAll 5 = .ok (.iconst 1, 1) := by decide +kernel
theorem dX10_hasAll_6 : decode cX10_hasAll 6 = .ok (.aload_n 0, 1) := by decide +kernel
theorem dX10_hasAll_7 : decode cX10_hasAll 7 = .ok (.getfield 29, 3) := by decide +kernel
theorem dX10_hasAll_10 : decode cX10_hasAll 10 = .ok (.ishl, 1) := by decide +kernel
theorem dX10_hasAll_11 : decode cX10_hasAll 11 = .ok (.if_icmp .ge 7, 3) := by decide +kernel
theorem dX10_hasAll_14 : decode cX10_hasAll 14 = .ok (.iconst 1, 1) := by decide +kernel
theorem dX10_hasAll_15 : decode cX10_hasAll 15 = .ok (.goto 4, 3) := by decide +kernel
theorem dX10_hasAll_18 : decode cX10_hasAll 18 = .ok (.iconst 0, 1) := by decide +kernel
theorem dX10_hasAll_19 : decode cX10_hasAll 19 = .ok (.ireturn, 1) := by decide +kernel
theorem dX10_cellOf_0 : decode cX10_cellOf 0 = .ok (.iload_n 0, 1) := by decide +kernel
theorem dX10_cellOf_1 : decode cX10_cellOf 1 = .ok (.bipush 16, 2) := by decide +kernel
theorem dX10_cellOf_3 : decode cX10_cellOf 3 = .ok (.imul, 1) := by decide +kernel
theorem dX10_cellOf_4 : decode cX10_cellOf 4 = .ok (.iload_n 1, 1) := by decide +kernel
theorem dX10_cellOf_5 : decode cX10_cellOf 5 = .ok (.iadd, 1) := by decide +kernel
theorem dX10_cellOf_6 : decode cX10_cellOf 6 = .ok (.ireturn, 1) := by decide +kernel
theorem dX10_unbind_0 : decode cX10_unbind 0 = .ok (.aload_n 0, 1) := by decide +kernel
theorem dX10_unbind_1 : decode cX10_unbind 1 = .ok (.ldc 79, 2) := by decide +kernel
theorem dX10_unbind_3 : decode cX10_unbind 3 = .ok (.invokestatic 80, 3) := by decide +kernel
theorem dX10_unbind_6 : decode cX10_unbind 6 = .ok (.iconst 0, 1) := by decide +kernel
theorem dX10_unbind_7 : decode cX10_unbind 7 = .ok (.istore_n 1, 1) := by decide +kernel
theorem dX10_unbind_8 : decode cX10_unbind 8 = .ok (.iload_n 1, 1) := by decide +kernel
theorem dX10_unbind_9 : decode cX10_unbind 9 = .ok (.bipush 16, 2) := by decide +kernel
theorem dX10_unbind_11 : decode cX10_unbind 11 = .ok (.if_icmp .ge 17, 3) := by decide +kernel
theorem dX10_unbind_14 : decode cX10_unbind 14 = .ok (.aload_n 0, 1) := by decide +kernel
theorem dX10_unbind_15 : decode cX10_unbind 15 = .ok (.iload_n 1, 1) := by decide +kernel
theorem dX10_unbind_16 : decode cX10_unbind 16 = .ok (.iload_n 1, 1) := by decide +kernel
theorem dX10_unbind_17 : decode cX10_unbind 17 = .ok (.invokestatic 45, 3) := by decide +kernel
theorem dX10_unbind_20 : decode cX10_unbind 20 = .ok (.iconst 0, 1) := by decide +kernel
theorem dX10_unbind_21 : decode cX10_unbind 21 = .ok (.iastore, 1) := by decide +kernel
theorem dX10_unbind_22 : decode cX10_unbind 22 = .ok (.iinc 1 1, 3) := by decide +kernel
theorem dX10_unbind_25 : decode cX10_unbind 25 = .ok (.goto (-17), 3) := by decide +kernel
theorem dX10_unbind_28 : decode cX10_unbind 28 = .ok (.return_, 1) := by decide +kernel
theorem dX10_isTold_0 : decode cX10_isTold 0 = .ok (.iload_n 0, 1) := by decide +kernel
theorem dX10_isTold_1 : decode cX10_isTold 1 = .ok (.iload_n 1, 1) := by decide +kernel
theorem dX10_isTold_2 : decode cX10_isTold 2 = .ok (.ishr, 1) := by decide +kernel
theorem dX10_isTold_3 : decode cX10_isTold 3 = .ok (.iconst 1, 1) := by decide +kernel
theorem dX10_isTold_4 : decode cX10_isTold 4 = .ok (.iand, 1) := by decide +kernel
theorem dX10_isTold_5 : decode cX10_isTold 5 = .ok (.iconst 1, 1) := by decide +kernel
theorem dX10_isTold_6 : decode cX10_isTold 6 = .ok (.if_icmp .ne 7, 3) := by decide +kernel
theorem dX10_isTold_9 : decode cX10_isTold 9 = .ok (.iconst 1, 1) := by decide +kernel
theorem dX10_isTold_10 : decode cX10_isTold 10 = .ok (.goto 4, 3) := by decide +kernel
theorem dX10_isTold_13 : decode cX10_isTold 13 = .ok (.iconst 0, 1) := by decide +kernel
theorem dX10_isTold_14 : decode cX10_isTold 14 = .ok (.ireturn, 1) := by decide +kernel
theorem dX10_tighten_0 : decode cX10_tighten 0 = .ok (.iconst 0, 1) := by decide +kernel
theorem dX10_tighten_1 : decode cX10_tighten 1 = .ok (.istore 4, 2) := by decide +kernel
theorem dX10_tighten_3 : decode cX10_tighten 3 = .ok (.iload 4, 2) := by decide +kernel
theorem dX10_tighten_5 : decode cX10_tighten 5 = .ok (.bipush 16, 2) := by decide +kernel
theorem dX10_tighten_7 : decode cX10_tighten 7 = .ok (.if_icmp .ge 53, 3) := by decide +kernel
theorem dX10_tighten_10 : decode cX10_tighten 10 = .ok (.aload_n 0, 1) := by decide +kernel
theorem dX10_tighten_11 : decode cX10_tighten 11 = .ok (.iload_n 2, 1) := by decide +kernel
theorem dX10_tighten_12 : decode cX10_tighten 12 = .ok (.iload 4, 2) := by decide +kernel
theorem dX10_tighten_14 : decode cX10_tighten 14 = .ok (.invokestatic 45, 3) := by decide +kernel
theorem dX10_tighten_17 : decode cX10_tighten 17 = .ok (.iaload, 1) := by decide +kernel
theorem dX10_tighten_18 : decode cX10_tighten 18 = .ok (.istore 5, 2) := by decide +kernel
theorem dX10_tighten_20 : decode cX10_tighten 20 = .ok (.iload 5, 2) := by decide +kernel
theorem dX10_tighten_22 : decode cX10_tighten 22 = .ok (.ldc 79, 2) := by decide +kernel
theorem dX10_tighten_24 : decode cX10_tighten 24 = .ok (.if_icmp .eq 30, 3) := by decide +kernel
theorem dX10_tighten_27 : decode cX10_tighten 27 = .ok (.iload_n 3, 1) := by decide +kernel
theorem dX10_tighten_28 : decode cX10_tighten 28 = .ok (.iload 5, 2) := by decide +kernel
theorem dX10_tighten_30 : decode cX10_tighten 30 = .ok (.iadd, 1) := by decide +kernel
theorem dX10_tighten_31 : decode cX10_tighten 31 = .ok (.aload_n 0, 1) := by decide +kernel
theorem dX10_tighten_32 : decode cX10_tighten 32 = .ok (.iload_n 1, 1) := by decide +kernel
theorem dX10_tighten_33 : decode cX10_tighten 33 = .ok (.iload 4, 2) := by decide +kernel
theorem dX10_tighten_35 : decode cX10_tighten 35 = .ok (.invokestatic 45, 3) := by decide +kernel
theorem dX10_tighten_38 : decode cX10_tighten 38 = .ok (.iaload, 1) := by decide +kernel
theorem dX10_tighten_39 : decode cX10_tighten 39 = .ok (.if_icmp .ge 15, 3) := by decide +kernel
theorem dX10_tighten_42 : decode cX10_tighten 42 = .ok (.aload_n 0, 1) := by decide +kernel
theorem dX10_tighten_43 : decode cX10_tighten 43 = .ok (.iload_n 1, 1) := by decide +kernel
theorem dX10_tighten_44 : decode cX10_tighten 44 = .ok (.iload 4, 2) := by decide +kernel
theorem dX10_tighten_46 : decode cX10_tighten 46 = .ok (.invokestatic 45, 3) := by decide +kernel
theorem dX10_tighten_49 : decode cX10_tighten 49 = .ok (.iload_n 3, 1) := by decide +kernel
theorem dX10_tighten_50 : decode cX10_tighten 50 = .ok (.iload 5, 2) := by decide +kernel
theorem dX10_tighten_52 : decode cX10_tighten 52 = .ok (.iadd, 1) := by decide +kernel
theorem dX10_tighten_53 : decode cX10_tighten 53 = .ok (.iastore, 1) := by decide +kernel
theorem dX10_tighten_54 : decode cX10_tighten 54 = .ok (.iinc 4 1, 3) := by decide +kernel
theorem dX10_tighten_57 : decode cX10_tighten 57 = .ok (.goto (-54), 3) := by decide +kernel
theorem dX10_tighten_60 : decode cX10_tighten 60 = .ok (.return_, 1) := by decide +kernel
theorem dX10_keep_0 : decode cX10_keep 0 = .ok (.aload_n 0, 1) := by decide +kernel
theorem dX10_keep_1 : decode cX10_keep 1 = .ok (.iload_n 2, 1) := by decide +kernel
theorem dX10_keep_2 : decode cX10_keep 2 = .ok (.iload_n 1, 1) := by decide +kernel
theorem dX10_keep_3 : decode cX10_keep 3 = .ok (.invokestatic 45, 3) := by decide +kernel
theorem dX10_keep_6 : decode cX10_keep 6 = .ok (.iaload, 1) := by decide +kernel
theorem dX10_keep_7 : decode cX10_keep 7 = .ok (.istore 4, 2) := by decide +kernel
theorem dX10_keep_9 : decode cX10_keep 9 = .ok (.iload 4, 2) := by decide +kernel
theorem dX10_keep_11 : decode cX10_keep 11 = .ok (.ldc 79, 2) := by decide +kernel
theorem dX10_keep_13 : decode cX10_keep 13 = .ok (.if_icmp .eq 12, 3) := by decide +kernel
theorem dX10_keep_16 : decode cX10_keep 16 = .ok (.iload 4, 2) := by decide +kernel
theorem dX10_keep_18 : decode cX10_keep 18 = .ok (.iload_n 3, 1) := by decide +kernel
theorem dX10_keep_19 : decode cX10_keep 19 = .ok (.iadd, 1) := by decide +kernel
theorem dX10_keep_20 : decode cX10_keep 20 = .ok (.ifCond .ge 5, 3) := by decide +kernel
theorem dX10_keep_23 : decode cX10_keep 23 = .ok (.iconst 0, 1) := by decide +kernel
theorem dX10_keep_24 : decode cX10_keep 24 = .ok (.ireturn, 1) := by decide +kernel
theorem dX10_keep_25 : decode cX10_keep 25 = .ok (.iload_n 3, 1) := by decide +kernel
theorem dX10_keep_26 : decode cX10_keep 26 = .ok (.aload_n 0, 1) := by decide +kernel
theorem dX10_keep_27 : decode cX10_keep 27 = .ok (.iload_n 1, 1) := by decide +kernel
theorem dX10_keep_28 : decode cX10_keep 28 = .ok (.iload_n 2, 1) := by decide +kernel
theorem dX10_keep_29 : decode cX10_keep 29 = .ok (.invokestatic 45, 3) := by decide +kernel
theorem dX10_keep_32 : decode cX10_keep 32 = .ok (.iaload, 1) := by decide +kernel
theorem dX10_keep_33 : decode cX10_keep 33 = .ok (.if_icmp .lt 5, 3) := by decide +kernel
theorem dX10_keep_36 : decode cX10_keep 36 = .ok (.iconst 1, 1) := by decide +kernel
theorem dX10_keep_37 : decode cX10_keep 37 = .ok (.ireturn, 1) := by decide +kernel
theorem dX10_keep_38 : decode cX10_keep 38 = .ok (.iconst 0, 1) := by decide +kernel
theorem dX10_keep_39 : decode cX10_keep 39 = .ok (.istore 5, 2) := by decide +kernel
theorem dX10_keep_41 : decode cX10_keep 41 = .ok (.iload 5, 2) := by decide +kernel
theorem dX10_keep_43 : decode cX10_keep 43 = .ok (.bipush 16, 2) := by decide +kernel
theorem dX10_keep_45 : decode cX10_keep 45 = .ok (.if_icmp .ge 37, 3) := by decide +kernel
theorem dX10_keep_48 : decode cX10_keep 48 = .ok (.aload_n 0, 1) := by decide +kernel
theorem dX10_keep_49 : decode cX10_keep 49 = .ok (.iload 5, 2) := by decide +kernel
theorem dX10_keep_51 : decode cX10_keep 51 = .ok (.iload_n 1, 1) := by decide +kernel
theorem dX10_keep_52 : decode cX10_keep 52 = .ok (.invokestatic 45, 3) := by decide +kernel
theorem dX10_keep_55 : decode cX10_keep 55 = .ok (.iaload, 1) := by decide +kernel
theorem dX10_keep_56 : decode cX10_keep 56 = .ok (.istore 6, 2) := by decide +kernel
theorem dX10_keep_58 : decode cX10_keep 58 = .ok (.iload 6, 2) := by decide +kernel
theorem dX10_keep_60 : decode cX10_keep 60 = .ok (.ldc 79, 2) := by decide +kernel
theorem dX10_keep_62 : decode cX10_keep 62 = .ok (.if_icmp .eq 14, 3) := by decide +kernel
theorem dX10_keep_65 : decode cX10_keep 65 = .ok (.aload_n 0, 1) := by decide +kernel
theorem dX10_keep_66 : decode cX10_keep 66 = .ok (.iload 5, 2) := by decide +kernel
theorem dX10_keep_68 : decode cX10_keep 68 = .ok (.iload_n 2, 1) := by decide +kernel
theorem dX10_keep_69 : decode cX10_keep 69 = .ok (.iload 6, 2) := by decide +kernel
theorem dX10_keep_71 : decode cX10_keep 71 = .ok (.iload_n 3, 1) := by decide +kernel
theorem dX10_keep_72 : decode cX10_keep 72 = .ok (.iadd, 1) := by decide +kernel
theorem dX10_keep_73 : decode cX10_keep 73 = .ok (.invokestatic 86, 3) := by decide +kernel
theorem dX10_keep_76 : decode cX10_keep 76 = .ok (.iinc 5 1, 3) := by decide +kernel
theorem dX10_keep_79 : decode cX10_keep 79 = .ok (.goto (-38), 3) := by decide +kernel
theorem dX10_keep_82 : decode cX10_keep 82 = .ok (.iconst 1, 1) := by decide +kernel
theorem dX10_keep_83 : decode cX10_keep 83 = .ok (.ireturn, 1) := by decide +kernel
theorem dX10_keepOne_0 : decode cX10_keepOne 0 = .ok (.aload_n 1, 1) := by decide +kernel
theorem dX10_keepOne_1 : decode cX10_keepOne 1 = .ok (.aload_n 0, 1) := by decide +kernel
theorem dX10_keepOne_2 : decode cX10_keepOne 2 = .ok (.getfield 11, 3) := by decide +kernel
theorem dX10_keepOne_5 : decode cX10_keepOne 5 = .ok (.iload_n 2, 1) := by decide +kernel
theorem dX10_keepOne_6 : decode cX10_keepOne 6 = .ok (.iaload, 1) := by decide +kernel
theorem dX10_keepOne_7 : decode cX10_keepOne 7 = .ok (.aload_n 0, 1) := by decide +kernel
theorem dX10_keepOne_8 : decode cX10_keepOne 8 = .ok (.getfield 15, 3) := by decide +kernel
theorem dX10_keepOne_11 : decode cX10_keepOne 11 = .ok (.iload_n 2, 1) := by decide +kernel
theorem dX10_keepOne_12 : decode cX10_keepOne 12 = .ok (.iaload, 1) := by decide +kernel
theorem dX10_keepOne_13 : decode cX10_keepOne 13 = .ok (.aload_n 0, 1) := by decide +kernel
theorem dX10_keepOne_14 : decode cX10_keepOne 14 = .ok (.getfield 18, 3) := by decide +kernel
theorem dX10_keepOne_17 : decode cX10_keepOne 17 = .ok (.iload_n 2, 1) := by decide +kernel
theorem dX10_keepOne_18 : decode cX10_keepOne 18 = .ok (.iaload, 1) := by decide +kernel
theorem dX10_keepOne_19 : decode cX10_keepOne 19 = .ok (.aload_n 0, 1) := by decide +kernel
theorem dX10_keepOne_20 : decode cX10_keepOne 20 = .ok (.getfield 21, 3) := by decide +kernel
theorem dX10_keepOne_23 : decode cX10_keepOne 23 = .ok (.iload_n 2, 1) := by decide +kernel
theorem dX10_keepOne_24 : decode cX10_keepOne 24 = .ok (.iaload, 1) := by decide +kernel
theorem dX10_keepOne_25 : decode cX10_keepOne 25 = .ok (.iadd, 1) := by decide +kernel
theorem dX10_keepOne_26 : decode cX10_keepOne 26 = .ok (.invokestatic 75, 3) := by decide +kernel
theorem dX10_keepOne_29 : decode cX10_keepOne 29 = .ok (.ifCond .eq 39, 3) := by decide +kernel
theorem dX10_keepOne_32 : decode cX10_keepOne 32 = .ok (.aload_n 1, 1) := by decide +kernel
theorem dX10_keepOne_33 : decode cX10_keepOne 33 = .ok (.aload_n 0, 1) := by decide +kernel
theorem dX10_keepOne_34 : decode cX10_keepOne 34 = .ok (.getfield 15, 3) := by decide +kernel
theorem dX10_keepOne_37 : decode cX10_keepOne 37 = .ok (.iload_n 2, 1) := by decide +kernel
theorem dX10_keepOne_38 : decode cX10_keepOne 38 = .ok (.iaload, 1) := by decide +kernel
theorem dX10_keepOne_39 : decode cX10_keepOne 39 = .ok (.aload_n 0, 1) := by decide +kernel
theorem dX10_keepOne_40 : decode cX10_keepOne 40 = .ok (.getfield 11, 3) := by decide +kernel
theorem dX10_keepOne_43 : decode cX10_keepOne 43 = .ok (.iload_n 2, 1) := by decide +kernel
theorem dX10_keepOne_44 : decode cX10_keepOne 44 = .ok (.iaload, 1) := by decide +kernel
theorem dX10_keepOne_45 : decode cX10_keepOne 45 = .ok (.aload_n 0, 1) := by decide +kernel
theorem dX10_keepOne_46 : decode cX10_keepOne 46 = .ok (.getfield 21, 3) := by decide +kernel
theorem dX10_keepOne_49 : decode cX10_keepOne 49 = .ok (.iload_n 2, 1) := by decide +kernel
theorem dX10_keepOne_50 : decode cX10_keepOne 50 = .ok (.iaload, 1) := by decide +kernel
theorem dX10_keepOne_51 : decode cX10_keepOne 51 = .ok (.aload_n 0, 1) := by decide +kernel
theorem dX10_keepOne_52 : decode cX10_keepOne 52 = .ok (.getfield 18, 3) := by decide +kernel
theorem dX10_keepOne_55 : decode cX10_keepOne 55 = .ok (.iload_n 2, 1) := by decide +kernel
theorem dX10_keepOne_56 : decode cX10_keepOne 56 = .ok (.iaload, 1) := by decide +kernel
theorem dX10_keepOne_57 : decode cX10_keepOne 57 = .ok (.isub, 1) := by decide +kernel
theorem dX10_keepOne_58 : decode cX10_keepOne 58 = .ok (.invokestatic 75, 3) := by decide +kernel
theorem dX10_keepOne_61 : decode cX10_keepOne 61 = .ok (.ifCond .eq 7, 3) := by decide +kernel
theorem dX10_keepOne_64 : decode cX10_keepOne 64 = .ok (.iconst 1, 1) := by decide +kernel
theorem dX10_keepOne_65 : decode cX10_keepOne 65 = .ok (.goto 4, 3) := by decide +kernel
theorem dX10_keepOne_68 : decode cX10_keepOne 68 = .ok (.iconst 0, 1) := by decide +kernel
theorem dX10_keepOne_69 : decode cX10_keepOne 69 = .ok (.ireturn, 1) := by decide +kernel
theorem dX10_keepAll_0 : decode cX10_keepAll 0 = .ok (.aload_n 0, 1) := by decide +kernel
theorem dX10_keepAll_1 : decode cX10_keepAll 1 = .ok (.getfield 26, 3) := by decide +kernel
theorem dX10_keepAll_4 : decode cX10_keepAll 4 = .ok (.iconst 0, 1) := by decide +kernel
theorem dX10_keepAll_5 : decode cX10_keepAll 5 = .ok (.aaload, 1) := by decide +kernel
theorem dX10_keepAll_6 : decode cX10_keepAll 6 = .ok (.invokestatic 33, 3) := by decide +kernel
theorem dX10_keepAll_9 : decode cX10_keepAll 9 = .ok (.iconst 0, 1) := by decide +kernel
theorem dX10_keepAll_10 : decode cX10_keepAll 10 = .ok (.istore_n 2, 1) := by decide +kernel
theorem dX10_keepAll_11 : decode cX10_keepAll 11 = .ok (.iload_n 2, 1) := by decide +kernel
theorem dX10_keepAll_12 : decode cX10_keepAll 12 = .ok (.aload_n 0, 1) := by decide +kernel
theorem dX10_keepAll_13 : decode cX10_keepAll 13 = .ok (.getfield 29, 3) := by decide +kernel
theorem dX10_keepAll_16 : decode cX10_keepAll 16 = .ok (.if_icmp .ge 33, 3) := by decide +kernel
theorem dX10_keepAll_19 : decode cX10_keepAll 19 = .ok (.iload_n 1, 1) := by decide +kernel
theorem dX10_keepAll_20 : decode cX10_keepAll 20 = .ok (.iload_n 2, 1) := by decide +kernel
theorem dX10_keepAll_21 : decode cX10_keepAll 21 = .ok (.invokestatic 37, 3) := by decide +kernel
theorem dX10_keepAll_24 : decode cX10_keepAll 24 = .ok (.ifCond .eq 19, 3) := by decide +kernel
theorem dX10_keepAll_27 : decode cX10_keepAll 27 = .ok (.aload_n 0, 1) := by decide +kernel
theorem dX10_keepAll_28 : decode cX10_keepAll 28 = .ok (.aload_n 0, 1) := by decide +kernel
theorem dX10_keepAll_29 : decode cX10_keepAll 29 = .ok (.getfield 26, 3) := by decide +kernel
theorem dX10_keepAll_32 : decode cX10_keepAll 32 = .ok (.iconst 0, 1) := by decide +kernel
theorem dX10_keepAll_33 : decode cX10_keepAll 33 = .ok (.aaload, 1) := by decide +kernel
theorem dX10_keepAll_34 : decode cX10_keepAll 34 = .ok (.iload_n 2, 1) := by decide +kernel
theorem dX10_keepAll_35 : decode cX10_keepAll 35 = .ok (.invokevirtual 41, 3) := by decide +kernel
theorem dX10_keepAll_38 : decode cX10_keepAll 38 = .ok (.ifCond .ne 5, 3) := by decide +kernel
theorem dX10_keepAll_41 : decode cX10_keepAll 41 = .ok (.iconst 0, 1) := by decide +kernel
theorem dX10_keepAll_42 : decode cX10_keepAll 42 = .ok (.ireturn, 1) := by decide +kernel
theorem dX10_keepAll_43 : decode cX10_keepAll 43 = .ok (.iinc 2 1, 3) := by decide +kernel
theorem dX10_keepAll_46 : decode cX10_keepAll 46 = .ok (.goto (-35), 3) := by decide +kernel
theorem dX10_keepAll_49 : decode cX10_keepAll 49 = .ok (.iconst 1, 1) := by decide +kernel
theorem dX10_keepAll_50 : decode cX10_keepAll 50 = .ok (.ireturn, 1) := by decide +kernel
theorem dX10_mostOf_0 : decode cX10_mostOf 0 = .ok (.aload_n 0, 1) := by decide +kernel
theorem dX10_mostOf_1 : decode cX10_mostOf 1 = .ok (.getfield 26, 3) := by decide +kernel
theorem dX10_mostOf_4 : decode cX10_mostOf 4 = .ok (.iconst 0, 1) := by decide +kernel
theorem dX10_mostOf_5 : decode cX10_mostOf 5 = .ok (.aaload, 1) := by decide +kernel
theorem dX10_mostOf_6 : decode cX10_mostOf 6 = .ok (.iload_n 1, 1) := by decide +kernel
theorem dX10_mostOf_7 : decode cX10_mostOf 7 = .ok (.iload_n 2, 1) := by decide +kernel
theorem dX10_mostOf_8 : decode cX10_mostOf 8 = .ok (.invokestatic 45, 3) := by decide +kernel
theorem dX10_mostOf_11 : decode cX10_mostOf 11 = .ok (.iaload, 1) := by decide +kernel
theorem dX10_mostOf_12 : decode cX10_mostOf 12 = .ok (.ireturn, 1) := by decide +kernel
theorem dJ6_bitCount_0f7a4_0 : decode cJ6_bitCount_0f7a4 0 = .ok (.iload_n 0, 1) := by decide +kernel
theorem dJ6_bitCount_0f7a4_1 : decode cJ6_bitCount_0f7a4 1 = .ok (.iload_n 0, 1) := by decide +kernel
theorem dJ6_bitCount_0f7a4_2 : decode cJ6_bitCount_0f7a4 2 = .ok (.iconst 1, 1) := by decide +kernel
theorem dJ6_bitCount_0f7a4_3 : decode cJ6_bitCount_0f7a4 3 = .ok (.iushr, 1) := by decide +kernel
theorem dJ6_bitCount_0f7a4_4 : decode cJ6_bitCount_0f7a4 4 = .ok (.ldc_w 265, 3) := by decide +kernel
theorem dJ6_bitCount_0f7a4_7 : decode cJ6_bitCount_0f7a4 7 = .ok (.iand, 1) := by decide +kernel
theorem dJ6_bitCount_0f7a4_8 : decode cJ6_bitCount_0f7a4 8 = .ok (.isub, 1) := by decide +kernel
theorem dJ6_bitCount_0f7a4_9 : decode cJ6_bitCount_0f7a4 9 = .ok (.istore_n 0, 1) := by decide +kernel
theorem dJ6_bitCount_0f7a4_10 : decode cJ6_bitCount_0f7a4 10 = .ok (.iload_n 0, 1) := by decide +kernel
theorem dJ6_bitCount_0f7a4_11 : decode cJ6_bitCount_0f7a4 11 = .ok (.ldc_w 266, 3) := by decide +kernel
theorem dJ6_bitCount_0f7a4_14 : decode cJ6_bitCount_0f7a4 14 = .ok (.iand, 1) := by decide +kernel
theorem dJ6_bitCount_0f7a4_15 : decode cJ6_bitCount_0f7a4 15 = .ok (.iload_n 0, 1) := by decide +kernel
theorem dJ6_bitCount_0f7a4_16 : decode cJ6_bitCount_0f7a4 16 = .ok (.iconst 2, 1) := by decide +kernel
theorem dJ6_bitCount_0f7a4_17 : decode cJ6_bitCount_0f7a4 17 = .ok (.iushr, 1) := by decide +kernel
theorem dJ6_bitCount_0f7a4_18 : decode cJ6_bitCount_0f7a4 18 = .ok (.ldc_w 266, 3) := by decide +kernel
theorem dJ6_bitCount_0f7a4_21 : decode cJ6_bitCount_0f7a4 21 = .ok (.iand, 1) := by decide +kernel
theorem dJ6_bitCount_0f7a4_22 : decode cJ6_bitCount_0f7a4 22 = .ok (.iadd, 1) := by decide +kernel
theorem dJ6_bitCount_0f7a4_23 : decode cJ6_bitCount_0f7a4 23 = .ok (.istore_n 0, 1) := by decide +kernel
theorem dJ6_bitCount_0f7a4_24 : decode cJ6_bitCount_0f7a4 24 = .ok (.iload_n 0, 1) := by decide +kernel
theorem dJ6_bitCount_0f7a4_25 : decode cJ6_bitCount_0f7a4 25 = .ok (.iload_n 0, 1) := by decide +kernel
theorem dJ6_bitCount_0f7a4_26 : decode cJ6_bitCount_0f7a4 26 = .ok (.iconst 4, 1) := by decide +kernel
theorem dJ6_bitCount_0f7a4_27 : decode cJ6_bitCount_0f7a4 27 = .ok (.iushr, 1) := by decide +kernel
theorem dJ6_bitCount_0f7a4_28 : decode cJ6_bitCount_0f7a4 28 = .ok (.iadd, 1) := by decide +kernel
theorem dJ6_bitCount_0f7a4_29 : decode cJ6_bitCount_0f7a4 29 = .ok (.ldc_w 267, 3) := by decide +kernel
theorem dJ6_bitCount_0f7a4_32 : decode cJ6_bitCount_0f7a4 32 = .ok (.iand, 1) := by decide +kernel
theorem dJ6_bitCount_0f7a4_33 : decode cJ6_bitCount_0f7a4 33 = .ok (.istore_n 0, 1) := by decide +kernel
theorem dJ6_bitCount_0f7a4_34 : decode cJ6_bitCount_0f7a4 34 = .ok (.iload_n 0, 1) := by decide +kernel
theorem dJ6_bitCount_0f7a4_35 : decode cJ6_bitCount_0f7a4 35 = .ok (.iload_n 0, 1) := by decide +kernel
theorem dJ6_bitCount_0f7a4_36 : decode cJ6_bitCount_0f7a4 36 = .ok (.bipush 8, 2) := by decide +kernel
theorem dJ6_bitCount_0f7a4_38 : decode cJ6_bitCount_0f7a4 38 = .ok (.iushr, 1) := by decide +kernel
theorem dJ6_bitCount_0f7a4_39 : decode cJ6_bitCount_0f7a4 39 = .ok (.iadd, 1) := by decide +kernel
theorem dJ6_bitCount_0f7a4_40 : decode cJ6_bitCount_0f7a4 40 = .ok (.istore_n 0, 1) := by decide +kernel
theorem dJ6_bitCount_0f7a4_41 : decode cJ6_bitCount_0f7a4 41 = .ok (.iload_n 0, 1) := by decide +kernel
theorem dJ6_bitCount_0f7a4_42 : decode cJ6_bitCount_0f7a4 42 = .ok (.iload_n 0, 1) := by decide +kernel
theorem dJ6_bitCount_0f7a4_43 : decode cJ6_bitCount_0f7a4 43 = .ok (.bipush 16, 2) := by decide +kernel
theorem dJ6_bitCount_0f7a4_45 : decode cJ6_bitCount_0f7a4 45 = .ok (.iushr, 1) := by decide +kernel
theorem dJ6_bitCount_0f7a4_46 : decode cJ6_bitCount_0f7a4 46 = .ok (.iadd, 1) := by decide +kernel
theorem dJ6_bitCount_0f7a4_47 : decode cJ6_bitCount_0f7a4 47 = .ok (.istore_n 0, 1) := by decide +kernel
theorem dJ6_bitCount_0f7a4_48 : decode cJ6_bitCount_0f7a4 48 = .ok (.iload_n 0, 1) := by decide +kernel
theorem dJ6_bitCount_0f7a4_49 : decode cJ6_bitCount_0f7a4 49 = .ok (.bipush 63, 2) := by decide +kernel
theorem dJ6_bitCount_0f7a4_51 : decode cJ6_bitCount_0f7a4 51 = .ok (.iand, 1) := by decide +kernel
theorem dJ6_bitCount_0f7a4_52 : decode cJ6_bitCount_0f7a4 52 = .ok (.ireturn, 1) := by decide +kernel
theorem dX10_takeOver_0 : decode cX10_takeOver 0 = .ok (.aload_n 0, 1) := by decide +kernel
theorem dX10_takeOver_1 : decode cX10_takeOver 1 = .ok (.getfield 26, 3) := by decide +kernel
theorem dX10_takeOver_4 : decode cX10_takeOver 4 = .ok (.iload_n 1, 1) := by decide +kernel
theorem dX10_takeOver_5 : decode cX10_takeOver 5 = .ok (.iconst 1, 1) := by decide +kernel
theorem dX10_takeOver_6 : decode cX10_takeOver 6 = .ok (.iadd, 1) := by decide +kernel
theorem dX10_takeOver_7 : decode cX10_takeOver 7 = .ok (.aaload, 1) := by decide +kernel
theorem dX10_takeOver_8 : decode cX10_takeOver 8 = .ok (.iconst 0, 1) := by decide +kernel
theorem dX10_takeOver_9 : decode cX10_takeOver 9 = .ok (.aload_n 0, 1) := by decide +kernel
theorem dX10_takeOver_10 : decode cX10_takeOver 10 = .ok (.getfield 26, 3) := by decide +kernel
theorem dX10_takeOver_13 : decode cX10_takeOver 13 = .ok (.iload_n 1, 1) := by decide +kernel
theorem dX10_takeOver_14 : decode cX10_takeOver 14 = .ok (.aaload, 1) := by decide +kernel
theorem dX10_takeOver_15 : decode cX10_takeOver 15 = .ok (.iconst 0, 1) := by decide +kernel
theorem dX10_takeOver_16 : decode cX10_takeOver 16 = .ok (.aload_n 0, 1) := by decide +kernel
theorem dX10_takeOver_17 : decode cX10_takeOver 17 = .ok (.getfield 26, 3) := by decide +kernel
theorem dX10_takeOver_20 : decode cX10_takeOver 20 = .ok (.iload_n 1, 1) := by decide +kernel
theorem dX10_takeOver_21 : decode cX10_takeOver 21 = .ok (.aaload, 1) := by decide +kernel
theorem dX10_takeOver_22 : decode cX10_takeOver 22 = .ok (.arraylength, 1) := by decide +kernel
theorem dX10_takeOver_23 : decode cX10_takeOver 23 = .ok (.invokestatic 69, 3) := by decide +kernel
theorem dX10_takeOver_26 : decode cX10_takeOver 26 = .ok (.return_, 1) := by decide +kernel
theorem dX10_seek_0 : decode cX10_seek 0 = .ok (.iload_n 3, 1) := by decide +kernel
theorem dX10_seek_1 : decode cX10_seek 1 = .ok (.invokestatic 59, 3) := by decide +kernel
theorem dX10_seek_4 : decode cX10_seek 4 = .ok (.aload_n 0, 1) := by decide +kernel
theorem dX10_seek_5 : decode cX10_seek 5 = .ok (.getfield 49, 3) := by decide +kernel
theorem dX10_seek_8 : decode cX10_seek 8 = .ok (.if_icmp .lt 4, 3) := by decide +kernel
theorem dX10_seek_11 : decode cX10_seek 11 = .ok (.return_, 1) := by decide +kernel
theorem dX10_seek_12 : decode cX10_seek 12 = .ok (.iload_n 2, 1) := by decide +kernel
theorem dX10_seek_13 : decode cX10_seek 13 = .ok (.ifCond .lt 9, 3) := by decide +kernel
theorem dX10_seek_16 : decode cX10_seek 16 = .ok (.iload_n 2, 1) := by decide +kernel
theorem dX10_seek_17 : decode cX10_seek 17 = .ok (.bipush 12, 2) := by decide +kernel
theorem dX10_seek_19 : decode cX10_seek 19 = .ok (.if_icmp .lt 17, 3) := by decide +kernel
theorem dX10_seek_22 : decode cX10_seek 22 = .ok (.aload_n 0, 1) := by decide +kernel
theorem dX10_seek_23 : decode cX10_seek 23 = .ok (.iload_n 3, 1) := by decide +kernel
theorem dX10_seek_24 : decode cX10_seek 24 = .ok (.invokestatic 59, 3) := by decide +kernel
theorem dX10_seek_27 : decode cX10_seek 27 = .ok (.putfield 49, 3) := by decide +kernel
theorem dX10_seek_30 : decode cX10_seek 30 = .ok (.aload_n 0, 1) := by decide +kernel
theorem dX10_seek_31 : decode cX10_seek 31 = .ok (.iload_n 3, 1) := by decide +kernel
theorem dX10_seek_32 : decode cX10_seek 32 = .ok (.putfield 52, 3) := by decide +kernel
theorem dX10_seek_35 : decode cX10_seek 35 = .ok (.return_, 1) := by decide +kernel
theorem dX10_seek_36 : decode cX10_seek 36 = .ok (.aload_n 0, 1) := by decide +kernel
theorem dX10_seek_37 : decode cX10_seek 37 = .ok (.iload_n 2, 1) := by decide +kernel
theorem dX10_seek_38 : decode cX10_seek 38 = .ok (.invokevirtual 65, 3) := by decide +kernel
theorem dX10_seek_41 : decode cX10_seek 41 = .ok (.iload_n 1, 1) := by decide +kernel
theorem dX10_seek_42 : decode cX10_seek 42 = .ok (.iload_n 2, 1) := by decide +kernel
theorem dX10_seek_43 : decode cX10_seek 43 = .ok (.invokestatic 37, 3) := by decide +kernel
theorem dX10_seek_46 : decode cX10_seek 46 = .ok (.ifCond .ne 13, 3) := by decide +kernel
theorem dX10_seek_49 : decode cX10_seek 49 = .ok (.aload_n 0, 1) := by decide +kernel
theorem dX10_seek_50 : decode cX10_seek 50 = .ok (.iload_n 1, 1) := by decide +kernel
theorem dX10_seek_51 : decode cX10_seek 51 = .ok (.iload_n 2, 1) := by decide +kernel
theorem dX10_seek_52 : decode cX10_seek 52 = .ok (.iconst 1, 1) := by decide +kernel
theorem dX10_seek_53 : decode cX10_seek 53 = .ok (.isub, 1) := by decide +kernel
theorem dX10_seek_54 : decode cX10_seek 54 = .ok (.iload_n 3, 1) := by decide +kernel
theorem dX10_seek_55 : decode cX10_seek 55 = .ok (.invokevirtual 55, 3) := by decide +kernel
theorem dX10_seek_58 : decode cX10_seek 58 = .ok (.return_, 1) := by decide +kernel
theorem dX10_seek_59 : decode cX10_seek 59 = .ok (.aload_n 0, 1) := by decide +kernel
theorem dX10_seek_60 : decode cX10_seek 60 = .ok (.aload_n 0, 1) := by decide +kernel
theorem dX10_seek_61 : decode cX10_seek 61 = .ok (.getfield 26, 3) := by decide +kernel
theorem dX10_seek_64 : decode cX10_seek 64 = .ok (.iload_n 2, 1) := by decide +kernel
theorem dX10_seek_65 : decode cX10_seek 65 = .ok (.aaload, 1) := by decide +kernel
theorem dX10_seek_66 : decode cX10_seek 66 = .ok (.iload_n 2, 1) := by decide +kernel
theorem dX10_seek_67 : decode cX10_seek 67 = .ok (.invokevirtual 41, 3) := by decide +kernel
theorem dX10_seek_70 : decode cX10_seek 70 = .ok (.ifCond .eq 12, 3) := by decide +kernel
theorem dX10_seek_73 : decode cX10_seek 73 = .ok (.aload_n 0, 1) := by decide +kernel
theorem dX10_seek_74 : decode cX10_seek 74 = .ok (.iload_n 1, 1) := by decide +kernel
theorem dX10_seek_75 : decode cX10_seek 75 = .ok (.iload_n 2, 1) := by decide +kernel
theorem dX10_seek_76 : decode cX10_seek 76 = .ok (.iconst 1, 1) := by decide +kernel
theorem dX10_seek_77 : decode cX10_seek 77 = .ok (.isub, 1) := by decide +kernel
theorem dX10_seek_78 : decode cX10_seek 78 = .ok (.iload_n 3, 1) := by decide +kernel
theorem dX10_seek_79 : decode cX10_seek 79 = .ok (.invokevirtual 55, 3) := by decide +kernel
theorem dX10_seek_82 : decode cX10_seek 82 = .ok (.aload_n 0, 1) := by decide +kernel
theorem dX10_seek_83 : decode cX10_seek 83 = .ok (.iload_n 2, 1) := by decide +kernel
theorem dX10_seek_84 : decode cX10_seek 84 = .ok (.invokevirtual 65, 3) := by decide +kernel
theorem dX10_seek_87 : decode cX10_seek 87 = .ok (.aload_n 0, 1) := by decide +kernel
theorem dX10_seek_88 : decode cX10_seek 88 = .ok (.iload_n 1, 1) := by decide +kernel
theorem dX10_seek_89 : decode cX10_seek 89 = .ok (.iload_n 2, 1) := by decide +kernel
theorem dX10_seek_90 : decode cX10_seek 90 = .ok (.iconst 1, 1) := by decide +kernel
theorem dX10_seek_91 : decode cX10_seek 91 = .ok (.isub, 1) := by decide +kernel
theorem dX10_seek_92 : decode cX10_seek 92 = .ok (.iload_n 3, 1) := by decide +kernel
theorem dX10_seek_93 : decode cX10_seek 93 = .ok (.iconst 1, 1) := by decide +kernel
theorem dX10_seek_94 : decode cX10_seek 94 = .ok (.iload_n 2, 1) := by decide +kernel
theorem dX10_seek_95 : decode cX10_seek 95 = .ok (.ishl, 1) := by decide +kernel
theorem dX10_seek_96 : decode cX10_seek 96 = .ok (.ior, 1) := by decide +kernel
theorem dX10_seek_97 : decode cX10_seek 97 = .ok (.invokevirtual 55, 3) := by decide +kernel
theorem dX10_seek_100 : decode cX10_seek 100 = .ok (.return_, 1) := by decide +kernel
theorem dX10_fewestGone_0 : decode cX10_fewestGone 0 = .ok (.aload_n 0, 1) := by decide +kernel
theorem dX10_fewestGone_1 : decode cX10_fewestGone 1 = .ok (.bipush 13, 2) := by decide +kernel
theorem dX10_fewestGone_3 : decode cX10_fewestGone 3 = .ok (.putfield 49, 3) := by decide +kernel
theorem dX10_fewestGone_6 : decode cX10_fewestGone 6 = .ok (.aload_n 0, 1) := by decide +kernel
theorem dX10_fewestGone_7 : decode cX10_fewestGone 7 = .ok (.iconst 0, 1) := by decide +kernel
theorem dX10_fewestGone_8 : decode cX10_fewestGone 8 = .ok (.putfield 52, 3) := by decide +kernel
theorem dX10_fewestGone_11 : decode cX10_fewestGone 11 = .ok (.aload_n 0, 1) := by decide +kernel
theorem dX10_fewestGone_12 : decode cX10_fewestGone 12 = .ok (.getfield 26, 3) := by decide +kernel
theorem dX10_fewestGone_15 : decode cX10_fewestGone 15 = .ok (.bipush 12, 2) := by decide +kernel
theorem dX10_fewestGone_17 : decode cX10_fewestGone 17 = .ok (.aaload, 1) := by decide +kernel
theorem dX10_fewestGone_18 : decode cX10_fewestGone 18 = .ok (.invokestatic 33, 3) := by decide +kernel
theorem dX10_fewestGone_21 : decode cX10_fewestGone 21 = .ok (.aload_n 0, 1) := by decide +kernel
theorem dX10_fewestGone_22 : decode cX10_fewestGone 22 = .ok (.iload_n 1, 1) := by decide +kernel
theorem dX10_fewestGone_23 : decode cX10_fewestGone 23 = .ok (.bipush 11, 2) := by decide +kernel
theorem dX10_fewestGone_25 : decode cX10_fewestGone 25 = .ok (.iconst 0, 1) := by decide +kernel
theorem dX10_fewestGone_26 : decode cX10_fewestGone 26 = .ok (.invokevirtual 55, 3) := by decide +kernel
theorem dX10_fewestGone_29 : decode cX10_fewestGone 29 = .ok (.aload_n 0, 1) := by decide +kernel
theorem dX10_fewestGone_30 : decode cX10_fewestGone 30 = .ok (.getfield 52, 3) := by decide +kernel
theorem dX10_fewestGone_33 : decode cX10_fewestGone 33 = .ok (.ireturn, 1) := by decide +kernel
set_option maxHeartbeats 4000000 in
set_option maxRecDepth 100000 in
theorem c_X0_become_a {l : Launch} {w : Wd} (hW : HWd w shX rX 66) (σ : St)   : ∀ res, f_X0_become_a σ = some res → MtV l yX0_become cX0_become 2 1 60 w [.ref (wA w 6), .ref (wA w 10)] σ res := by
  refine mt_V (by decide) rfl hW (fun X hl0 hC hret => ?_)
  show RF X w (Aw w (xs_ X).heap.size) 2 (QV X w) (f_X0_become_a σ) 0 [(0, .ref (wA w 6)), (1, .ref (wA w 10))] [] σ
  unfold f_X0_become_a
  refine r_aload_n hC dX0_become_0 rfl 1 rfl ?_
  refine r_getR hC clX0 10 0 11 rfl rfl rfl (hC.n rfl) rfl lf_X0_9 dX0_become_1 ?_
  refine r_iconst (v := 0) hC dX0_become_4 (by decide) ?_
  refine r_aload_n hC dX0_become_5 rfl 0 rfl ?_
  refine r_getR hC clX0 6 0 7 rfl rfl rfl (hC.n rfl) rfl lf_X0_9 dX0_become_6 ?_
  refine r_iconst (v := 0) hC dX0_become_9 (by decide) ?_
  refine r_bipush (v := 8) hC dX0_become_10 (by decide) ?_
  refine r_gd (fun g1 => ?_)
  refine r_copyi hC 11 7 8 8 rfl rfl rfl rfl g1 (by decide) (Nat.le_of_ble_eq_true rfl) lm_X0_25 wn_copy ws_copy wi_sys dX0_become_12 ?_
  refine r_nmS (fun σ2 => ?_)
  refine r_aload_n hC dX0_become_15 rfl 1 rfl ?_
  refine r_getR hC clX0 10 1 12 rfl rfl rfl (hC.n rfl) rfl lf_X0_15 dX0_become_16 ?_
  refine r_iconst (v := 0) hC dX0_become_19 (by decide) ?_
  refine r_aload_n hC dX0_become_20 rfl 0 rfl ?_
  refine r_getR hC clX0 6 1 8 rfl rfl rfl (hC.n rfl) rfl lf_X0_15 dX0_become_21 ?_
  refine r_iconst (v := 0) hC dX0_become_24 (by decide) ?_
  refine r_bipush (v := 8) hC dX0_become_25 (by decide) ?_
  refine r_gd (fun g3 => ?_)
  refine r_copyi hC 12 8 8 8 rfl rfl rfl rfl g3 (by decide) (Nat.le_of_ble_eq_true rfl) lm_X0_25 wn_copy ws_copy wi_sys dX0_become_27 ?_
  refine r_nmS (fun σ4 => ?_)
  refine r_aload_n hC dX0_become_30 rfl 1 rfl ?_
  refine r_getR hC clX0 10 2 13 rfl rfl rfl (hC.n rfl) rfl lf_X0_18 dX0_become_31 ?_
  refine r_iconst (v := 0) hC dX0_become_34 (by decide) ?_
  refine r_aload_n hC dX0_become_35 rfl 0 rfl ?_
  refine r_getR hC clX0 6 2 9 rfl rfl rfl (hC.n rfl) rfl lf_X0_18 dX0_become_36 ?_
  refine r_iconst (v := 0) hC dX0_become_39 (by decide) ?_
  refine r_bipush (v := 8) hC dX0_become_40 (by decide) ?_
  refine r_gd (fun g5 => ?_)
  refine r_copyi hC 13 9 8 8 rfl rfl rfl rfl g5 (by decide) (Nat.le_of_ble_eq_true rfl) lm_X0_25 wn_copy ws_copy wi_sys dX0_become_42 ?_
  refine r_nmS (fun σ6 => ?_)
  refine r_aload_n hC dX0_become_45 rfl 0 rfl ?_
  refine r_aload_n hC dX0_become_46 rfl 1 rfl ?_
  refine r_getI hC clX0 10 3 rfl rfl (hC.n rfl) rfl lf_X0_21 dX0_become_47 ?_
  refine r_nmI (fun v7 => ?_)
  refine r_putI hC clX0 6 3 rfl rfl rfl (hC.n rfl) rfl rfl lf_X0_21 dX0_become_50 ?_
  refine r_nmS (fun σ8 => ?_)
  refine r_aload_n hC dX0_become_53 rfl 0 rfl ?_
  refine r_aload_n hC dX0_become_54 rfl 1 rfl ?_
  refine r_getI hC clX0 10 4 rfl rfl (hC.n rfl) rfl lf_X0_31 dX0_become_55 ?_
  refine r_nmI (fun v9 => ?_)
  refine r_putI hC clX0 6 4 rfl rfl rfl (hC.n rfl) rfl rfl lf_X0_31 dX0_become_58 ?_
  refine r_nmS (fun σ10 => ?_)
  exact r_vret hC hret dX0_become_61
set_option maxHeartbeats 4000000 in
set_option maxRecDepth 100000 in
theorem c_X0_become_b {l : Launch} {w : Wd} (hW : HWd w shX rX 66) (σ : St)   : ∀ res, f_X0_become_b σ = some res → MtV l yX0_become cX0_become 2 1 60 w [.ref (wA w 10), .ref (wA w 6)] σ res := by
  refine mt_V (by decide) rfl hW (fun X hl0 hC hret => ?_)
  show RF X w (Aw w (xs_ X).heap.size) 2 (QV X w) (f_X0_become_b σ) 0 [(0, .ref (wA w 10)), (1, .ref (wA w 6))] [] σ
  unfold f_X0_become_b
  refine r_aload_n hC dX0_become_0 rfl 1 rfl ?_
  refine r_getR hC clX0 6 0 7 rfl rfl rfl (hC.n rfl) rfl lf_X0_9 dX0_become_1 ?_
  refine r_iconst (v := 0) hC dX0_become_4 (by decide) ?_
  refine r_aload_n hC dX0_become_5 rfl 0 rfl ?_
  refine r_getR hC clX0 10 0 11 rfl rfl rfl (hC.n rfl) rfl lf_X0_9 dX0_become_6 ?_
  refine r_iconst (v := 0) hC dX0_become_9 (by decide) ?_
  refine r_bipush (v := 8) hC dX0_become_10 (by decide) ?_
  refine r_gd (fun g1 => ?_)
  refine r_copyi hC 7 11 8 8 rfl rfl rfl rfl g1 (by decide) (Nat.le_of_ble_eq_true rfl) lm_X0_25 wn_copy ws_copy wi_sys dX0_become_12 ?_
  refine r_nmS (fun σ2 => ?_)
  refine r_aload_n hC dX0_become_15 rfl 1 rfl ?_
  refine r_getR hC clX0 6 1 8 rfl rfl rfl (hC.n rfl) rfl lf_X0_15 dX0_become_16 ?_
  refine r_iconst (v := 0) hC dX0_become_19 (by decide) ?_
  refine r_aload_n hC dX0_become_20 rfl 0 rfl ?_
  refine r_getR hC clX0 10 1 12 rfl rfl rfl (hC.n rfl) rfl lf_X0_15 dX0_become_21 ?_
  refine r_iconst (v := 0) hC dX0_become_24 (by decide) ?_
  refine r_bipush (v := 8) hC dX0_become_25 (by decide) ?_
  refine r_gd (fun g3 => ?_)
  refine r_copyi hC 8 12 8 8 rfl rfl rfl rfl g3 (by decide) (Nat.le_of_ble_eq_true rfl) lm_X0_25 wn_copy ws_copy wi_sys dX0_become_27 ?_
  refine r_nmS (fun σ4 => ?_)
  refine r_aload_n hC dX0_become_30 rfl 1 rfl ?_
  refine r_getR hC clX0 6 2 9 rfl rfl rfl (hC.n rfl) rfl lf_X0_18 dX0_become_31 ?_
  refine r_iconst (v := 0) hC dX0_become_34 (by decide) ?_
  refine r_aload_n hC dX0_become_35 rfl 0 rfl ?_
  refine r_getR hC clX0 10 2 13 rfl rfl rfl (hC.n rfl) rfl lf_X0_18 dX0_become_36 ?_
  refine r_iconst (v := 0) hC dX0_become_39 (by decide) ?_
  refine r_bipush (v := 8) hC dX0_become_40 (by decide) ?_
  refine r_gd (fun g5 => ?_)
  refine r_copyi hC 9 13 8 8 rfl rfl rfl rfl g5 (by decide) (Nat.le_of_ble_eq_true rfl) lm_X0_25 wn_copy ws_copy wi_sys dX0_become_42 ?_
  refine r_nmS (fun σ6 => ?_)
  refine r_aload_n hC dX0_become_45 rfl 0 rfl ?_
  refine r_aload_n hC dX0_become_46 rfl 1 rfl ?_
  refine r_getI hC clX0 6 3 rfl rfl (hC.n rfl) rfl lf_X0_21 dX0_become_47 ?_
  refine r_nmI (fun v7 => ?_)
  refine r_putI hC clX0 10 3 rfl rfl rfl (hC.n rfl) rfl rfl lf_X0_21 dX0_become_50 ?_
  refine r_nmS (fun σ8 => ?_)
  refine r_aload_n hC dX0_become_53 rfl 0 rfl ?_
  refine r_aload_n hC dX0_become_54 rfl 1 rfl ?_
  refine r_getI hC clX0 6 4 rfl rfl (hC.n rfl) rfl lf_X0_31 dX0_become_55 ?_
  refine r_nmI (fun v9 => ?_)
  refine r_putI hC clX0 10 4 rfl rfl rfl (hC.n rfl) rfl rfl lf_X0_31 dX0_become_58 ?_
  refine r_nmS (fun σ10 => ?_)
  exact r_vret hC hret dX0_become_61
set_option maxHeartbeats 4000000 in
set_option maxRecDepth 100000 in
theorem w_X0_seatOf_l2 {X : Mc} {w : Wd} (hC : Cok X w (Aw w (xs_ X).heap.size) yX0_seatOf.cls cX0_seatOf 3 0 0 shX rX 66) (hret : (xmeth X).sig.returnType = some .int) (σ : St) (a2 : Int32)     : ∀ (n : Nat) (x1 : Int32), RF X w (Aw w (xs_ X).heap.size) 3 (fun r => QI X w (r, σ)) (f_X0_seatOf_l2 σ a2 n x1) 2 [(0, .ref (wA w 6)), (1, .int a2), (2, .int x1)] [] σ := by
  intro n
  induction n with
  | zero => intro x1; rw [f_X0_seatOf_l2]; exact r_none
  | succ n ih =>
    intro x1
    rw [f_X0_seatOf_l2]
    refine r_iload_n hC dX0_seatOf_2 rfl 2 rfl ?_
    refine r_bipush (v := 8) hC dX0_seatOf_3 (by decide) ?_
    refine r_icmp_ge hC 26 dX0_seatOf_5 (by decide) (fun c2 => ?_) (fun c2 => ?_)
    · refine r_iconst (v := (-1)) hC dX0_seatOf_26 (by decide) ?_
      exact r_iretP hC hret rfl dX0_seatOf_27
    · refine r_aload_n hC dX0_seatOf_8 rfl 0 rfl ?_
      refine r_getR hC clX0 6 0 7 rfl rfl rfl (hC.n rfl) rfl lf_X0_9 dX0_seatOf_9 ?_
      refine r_iload_n hC dX0_seatOf_12 rfl 2 rfl ?_
      refine r_gd (fun g3 => ?_)
      refine r_iald hC 7 8 rfl rfl g3 dX0_seatOf_13 ?_
      refine r_nmI (fun v4 => ?_)
      refine r_iload_n hC dX0_seatOf_14 rfl 1 rfl ?_
      refine r_icmp_ne hC 20 dX0_seatOf_15 (by decide) (fun c5 => ?_) (fun c5 => ?_)
      · refine r_iinc (v := x1 + 1) (lv' := [(2, .int (x1 + 1)), (0, .ref (wA w 6)), (1, .int a2)]) hC dX0_seatOf_20 2 rfl rfl (by decide) rfl ?_
        refine r_goto hC 2 dX0_seatOf_23 (by decide) ?_
        exact r_lv [1, 2, 0] rfl (ih (x1 + 1))
      · refine r_iload_n hC dX0_seatOf_18 rfl 2 rfl ?_
        exact r_iretP hC hret rfl dX0_seatOf_19
set_option maxHeartbeats 4000000 in
set_option maxRecDepth 100000 in
theorem c_X0_seatOf {l : Launch} {w : Wd} (hW : HWd w shX rX 66) (σ : St) (a2 : Int32)  : ∀ res, f_X0_seatOf σ a2 = some res → MtI l yX0_seatOf cX0_seatOf 3 .int 0 0 w [.ref (wA w 6), .int a2] σ (res, σ) := by
  refine mt_P (by decide) rfl hW (fun X hl0 hC hret => ?_)
  show RF X w (Aw w (xs_ X).heap.size) 3 (fun r => QI X w (r, σ)) (f_X0_seatOf σ a2) 0 [(0, .ref (wA w 6)), (1, .int a2)] [] σ
  unfold f_X0_seatOf
  refine r_iconst (v := 0) hC dX0_seatOf_0 (by decide) ?_
  refine r_istore_n (lv' := [(2, .int 0), (0, .ref (wA w 6)), (1, .int a2)]) hC dX0_seatOf_1 rfl (by decide) rfl ?_
  refine r_lv [1, 2, 0] rfl ?_
  exact w_X0_seatOf_l2 hC hret σ a2 FU 0
set_option maxHeartbeats 4000000 in
set_option maxRecDepth 100000 in
theorem c_X0_place {l : Launch} {w : Wd} (hW : HWd w shX rX 66) (σ : St) (a2 : Int32) (a3 : Int32)  : ∀ res, f_X0_place σ a2 a3 = some res → MtI l yX0_place cX0_place 5 .int 1 22 w [.ref (wA w 6), .int a2, .int a3] σ res := by
  refine mt_I (by decide) rfl hW (fun X hl0 hC hret => ?_)
  show RF X w (Aw w (xs_ X).heap.size) 5 (QI X w) (f_X0_place σ a2 a3) 0 [(0, .ref (wA w 6)), (1, .int a2), (2, .int a3)] [] σ
  unfold f_X0_place
  refine r_aload_n hC dX0_place_0 rfl 0 rfl ?_
  refine r_getR hC clX0 6 0 7 rfl rfl rfl (hC.n rfl) rfl lf_X0_9 dX0_place_1 ?_
  refine r_iload_n hC dX0_place_4 rfl 1 rfl ?_
  refine r_gd (fun g1 => ?_)
  refine r_iald hC 7 8 rfl rfl g1 dX0_place_5 ?_
  refine r_nmI (fun v2 => ?_)
  refine r_istore_n (lv' := [(3, .int v2), (0, .ref (wA w 6)), (1, .int a2), (2, .int a3)]) hC dX0_place_6 rfl (by decide) rfl ?_
  refine r_iload_n hC dX0_place_7 rfl 3 rfl ?_
  refine r_iconst (v := (-1)) hC dX0_place_8 (by decide) ?_
  refine r_jn (T := fun (j4 : Int32 → Option (Int32 × St)) => ∀ (t3 : Int32), RF X w (Aw w (xs_ X).heap.size) 5 (QI X w) (j4 t3) 21 [(0, .ref (wA w 6)), (1, .int a2), (2, .int a3), (3, .int v2)] [.int t3] σ) ?_ (fun j4 hj4 => ?_)
  · intro t3
    refine r_istore (lv' := [(4, .int t3), (0, .ref (wA w 6)), (1, .int a2), (2, .int a3), (3, .int v2)]) hC dX0_place_21 (by decide) rfl ?_
    refine r_iload hC dX0_place_23 0 rfl ?_
    refine r_iconst (v := (-1)) hC dX0_place_25 (by decide) ?_
    refine r_jn (T := fun (j6 : St → Option (Int32 × St)) => ∀ (σ5 : St), RF X w (Aw w (xs_ X).heap.size) 5 (QI X w) (j6 σ5) 37 [(0, .ref (wA w 6)), (1, .int a2), (2, .int a3), (3, .int v2)] [] σ5) ?_ (fun j6 hj6 => ?_)
    · intro σ5
      refine r_aload_n hC dX0_place_37 rfl 0 rfl ?_
      refine r_getR hC clX0 6 0 7 rfl rfl rfl (hC.n rfl) rfl lf_X0_9 dX0_place_38 ?_
      refine r_iload_n hC dX0_place_41 rfl 1 rfl ?_
      refine r_iload_n hC dX0_place_42 rfl 2 rfl ?_
      refine r_gd (fun g7 => ?_)
      refine r_iast hC 7 8 rfl rfl g7 dX0_place_43 ?_
      refine r_nmS (fun σ8 => ?_)
      refine r_iload_n hC dX0_place_44 rfl 3 rfl ?_
      exact r_iret hC hret rfl dX0_place_45
    · refine r_icmp_eq hC 37 dX0_place_26 (by decide) (fun c9 => ?_) (fun c9 => ?_)
      · exact r_lv [1, 2, 3, 4] rfl (hj6 σ)
      · refine r_aload_n hC dX0_place_29 rfl 1 rfl ?_
        refine r_getR hC clX0 6 0 7 rfl rfl rfl (hC.n rfl) rfl lf_X0_9 dX0_place_30 ?_
        refine r_iload hC dX0_place_33 0 rfl ?_
        refine r_iconst (v := (-1)) hC dX0_place_35 (by decide) ?_
        refine r_gd (fun g10 => ?_)
        refine r_iast hC 7 8 rfl rfl g10 dX0_place_36 ?_
        refine r_nmS (fun σ11 => ?_)
        exact r_lv [1, 2, 3, 4] rfl (hj6 σ11)
  · refine r_icmp_ne hC 16 dX0_place_9 (by decide) (fun c12 => ?_) (fun c12 => ?_)
    · refine r_aload_n hC dX0_place_16 rfl 1 rfl ?_
      refine r_iload_n hC dX0_place_17 rfl 3 rfl ?_
      refine r_callVP hC (b := 6) (ci := 0) (st := []) [.int a3] rfl (hC.n rfl) rfl rfl (c_X0_seatOf hC.w σ a3) yk_X0_seatOf lm_X0_34 rfl ⟨rfl, rfl⟩ rfl dX0_place_18 (fun v13 => ?_)
      exact r_lv [1, 2, 3, 0] rfl (hj4 v13)
    · refine r_iconst (v := (-1)) hC dX0_place_12 (by decide) ?_
      refine r_goto hC 21 dX0_place_13 (by decide) ?_
      exact r_lv [1, 2, 3, 0] rfl (hj4 (-1))
set_option maxHeartbeats 4000000 in
set_option maxRecDepth 100000 in
theorem w_X0_sitters_l4 {X : Mc} {w : Wd} (hC : Cok X w (Aw w (xs_ X).heap.size) yX0_sitters.cls cX0_sitters 3 0 0 shX rX 66) (hret : (xmeth X).sig.returnType = some .int) (σ : St)     : ∀ (n : Nat) (x1 : Int32) (x2 : Int32), RF X w (Aw w (xs_ X).heap.size) 3 (fun r => QI X w (r, σ)) (f_X0_sitters_l4 σ n x1 x2) 4 [(0, .ref (wA w 6)), (1, .int x1), (2, .int x2)] [] σ := by
  intro n
  induction n with
  | zero => intro x1 x2; rw [f_X0_sitters_l4]; exact r_none
  | succ n ih =>
    intro x1 x2
    rw [f_X0_sitters_l4]
    refine r_iload_n hC dX0_sitters_4 rfl 2 rfl ?_
    refine r_bipush (v := 8) hC dX0_sitters_5 (by decide) ?_
    refine r_icmp_ge hC 29 dX0_sitters_7 (by decide) (fun c3 => ?_) (fun c3 => ?_)
    · refine r_iload_n hC dX0_sitters_29 rfl 1 rfl ?_
      exact r_iretP hC hret rfl dX0_sitters_30
    · refine r_aload_n hC dX0_sitters_10 rfl 0 rfl ?_
      refine r_getR hC clX0 6 0 7 rfl rfl rfl (hC.n rfl) rfl lf_X0_9 dX0_sitters_11 ?_
      refine r_iload_n hC dX0_sitters_14 rfl 2 rfl ?_
      refine r_gd (fun g4 => ?_)
      refine r_iald hC 7 8 rfl rfl g4 dX0_sitters_15 ?_
      refine r_nmI (fun v5 => ?_)
      refine r_iconst (v := (-1)) hC dX0_sitters_16 (by decide) ?_
      refine r_jn (T := fun (j7 : Int32 → Option Int32) => ∀ (x6 : Int32), RF X w (Aw w (xs_ X).heap.size) 3 (fun r => QI X w (r, σ)) (j7 x6) 23 [(0, .ref (wA w 6)), (1, .int x6), (2, .int x2)] [] σ) ?_ (fun j7 hj7 => ?_)
      · intro x6
        refine r_iinc (v := x2 + 1) (lv' := [(2, .int (x2 + 1)), (0, .ref (wA w 6)), (1, .int x6)]) hC dX0_sitters_23 2 rfl rfl (by decide) rfl ?_
        refine r_goto hC 4 dX0_sitters_26 (by decide) ?_
        exact r_lv [1, 2, 0] rfl (ih x6 (x2 + 1))
      · refine r_icmp_eq hC 23 dX0_sitters_17 (by decide) (fun c8 => ?_) (fun c8 => ?_)
        · exact r_lv [0, 1, 2] rfl (hj7 x1)
        · refine r_iinc (v := x1 + 1) (lv' := [(1, .int (x1 + 1)), (0, .ref (wA w 6)), (2, .int x2)]) hC dX0_sitters_20 1 rfl rfl (by decide) rfl ?_
          exact r_lv [1, 0, 2] rfl (hj7 (x1 + 1))
set_option maxHeartbeats 4000000 in
set_option maxRecDepth 100000 in
theorem c_X0_sitters {l : Launch} {w : Wd} (hW : HWd w shX rX 66) (σ : St)   : ∀ res, f_X0_sitters σ = some res → MtI l yX0_sitters cX0_sitters 3 .int 0 0 w [.ref (wA w 6)] σ (res, σ) := by
  refine mt_P (by decide) rfl hW (fun X hl0 hC hret => ?_)
  show RF X w (Aw w (xs_ X).heap.size) 3 (fun r => QI X w (r, σ)) (f_X0_sitters σ) 0 [(0, .ref (wA w 6))] [] σ
  unfold f_X0_sitters
  refine r_iconst (v := 0) hC dX0_sitters_0 (by decide) ?_
  refine r_istore_n (lv' := [(1, .int 0), (0, .ref (wA w 6))]) hC dX0_sitters_1 rfl (by decide) rfl ?_
  refine r_iconst (v := 0) hC dX0_sitters_2 (by decide) ?_
  refine r_istore_n (lv' := [(2, .int 0), (1, .int 0), (0, .ref (wA w 6))]) hC dX0_sitters_3 rfl (by decide) rfl ?_
  refine r_lv [2, 1, 0] rfl ?_
  exact w_X0_sitters_l4 hC hret σ FU 0 0
set_option maxHeartbeats 4000000 in
set_option maxRecDepth 100000 in
theorem c_X2_has {l : Launch} {w : Wd} (hW : HWd w shX rX 66) (σ : St) (a2 : Int32)  : ∀ res, f_X2_has σ a2 = some res → MtI l yX2_has cX2_has 2 .boolean 0 0 w [.ref (wA w 1), .int a2] σ (res, σ) := by
  refine mt_P (by decide) rfl hW (fun X hl0 hC hret => ?_)
  show RF X w (Aw w (xs_ X).heap.size) 2 (fun r => QI X w (r, σ)) (f_X2_has σ a2) 0 [(0, .ref (wA w 1)), (1, .int a2)] [] σ
  unfold f_X2_has
  refine r_iload_n hC dX2_has_0 rfl 1 rfl ?_
  refine r_if_lt hC 16 dX2_has_1 (by decide) (fun c1 => ?_) (fun c1 => ?_)
  · refine r_iconst (v := 0) hC dX2_has_16 (by decide) ?_
    exact r_iretP hC hret rfl dX2_has_17
  · refine r_iload_n hC dX2_has_4 rfl 1 rfl ?_
    refine r_aload_n hC dX2_has_5 rfl 0 rfl ?_
    refine r_getI hC clX2 1 4 rfl rfl (hC.n rfl) rfl lf_X2_24 dX2_has_6 ?_
    refine r_nmI (fun v2 => ?_)
    refine r_icmp_ge hC 16 dX2_has_9 (by decide) (fun c3 => ?_) (fun c3 => ?_)
    · refine r_iconst (v := 0) hC dX2_has_16 (by decide) ?_
      exact r_iretP hC hret rfl dX2_has_17
    · refine r_iconst (v := 1) hC dX2_has_12 (by decide) ?_
      refine r_goto hC 17 dX2_has_13 (by decide) ?_
      exact r_iretP hC hret rfl dX2_has_17
set_option maxHeartbeats 4000000 in
set_option maxRecDepth 100000 in
theorem w_X0_weightOf_l4 {X : Mc} {w : Wd} (hC : Cok X w (Aw w (xs_ X).heap.size) yX0_weightOf.cls cX0_weightOf 4 1 21 shX rX 66) (hret : (xmeth X).sig.returnType = some .int) (σ : St)     : ∀ (n : Nat) (x1 : Int32) (x2 : Int32), RF X w (Aw w (xs_ X).heap.size) 4 (fun r => QI X w (r, σ)) (f_X0_weightOf_l4 σ n x1 x2) 4 [(0, .ref (wA w 6)), (1, .ref (wA w 1)), (2, .int x1), (3, .int x2)] [] σ := by
  intro n
  induction n with
  | zero => intro x1 x2; rw [f_X0_weightOf_l4]; exact r_none
  | succ n ih =>
    intro x1 x2
    rw [f_X0_weightOf_l4]
    refine r_iload_n hC dX0_weightOf_4 rfl 3 rfl ?_
    refine r_bipush (v := 8) hC dX0_weightOf_5 (by decide) ?_
    refine r_icmp_ge hC 43 dX0_weightOf_7 (by decide) (fun c3 => ?_) (fun c3 => ?_)
    · refine r_iload_n hC dX0_weightOf_43 rfl 2 rfl ?_
      exact r_iretP hC hret rfl dX0_weightOf_44
    · refine r_aload_n hC dX0_weightOf_10 rfl 1 rfl ?_
      refine r_aload_n hC dX0_weightOf_11 rfl 0 rfl ?_
      refine r_getR hC clX0 6 0 7 rfl rfl rfl (hC.n rfl) rfl lf_X0_9 dX0_weightOf_12 ?_
      refine r_iload_n hC dX0_weightOf_15 rfl 3 rfl ?_
      refine r_gd (fun g4 => ?_)
      refine r_iald hC 7 8 rfl rfl g4 dX0_weightOf_16 ?_
      refine r_nmI (fun v5 => ?_)
      refine r_callVP hC (b := 1) (ci := 2) (st := []) [.int v5] rfl (hC.n rfl) rfl rfl (c_X2_has hC.w σ v5) yk_X2_has lm_X0_38 rfl ⟨rfl, rfl⟩ rfl dX0_weightOf_17 (fun v6 => ?_)
      refine r_jn (T := fun (j8 : Int32 → Option Int32) => ∀ (x7 : Int32), RF X w (Aw w (xs_ X).heap.size) 4 (fun r => QI X w (r, σ)) (j8 x7) 37 [(0, .ref (wA w 6)), (1, .ref (wA w 1)), (2, .int x7), (3, .int x2)] [] σ) ?_ (fun j8 hj8 => ?_)
      · intro x7
        refine r_iinc (v := x2 + 1) (lv' := [(3, .int (x2 + 1)), (0, .ref (wA w 6)), (1, .ref (wA w 1)), (2, .int x7)]) hC dX0_weightOf_37 3 rfl rfl (by decide) rfl ?_
        refine r_goto hC 4 dX0_weightOf_40 (by decide) ?_
        exact r_lv [1, 2, 3, 0] rfl (ih x7 (x2 + 1))
      · refine r_if_eq hC 37 dX0_weightOf_20 (by decide) (fun c9 => ?_) (fun c9 => ?_)
        · exact r_lv [0, 1, 2, 3] rfl (hj8 x1)
        · refine r_iload_n hC dX0_weightOf_23 rfl 2 rfl ?_
          refine r_aload_n hC dX0_weightOf_24 rfl 1 rfl ?_
          refine r_getR hC clX2 1 0 2 rfl rfl rfl (hC.n rfl) rfl lf_X0_44 dX0_weightOf_25 ?_
          refine r_aload_n hC dX0_weightOf_28 rfl 0 rfl ?_
          refine r_getR hC clX0 6 0 7 rfl rfl rfl (hC.n rfl) rfl lf_X0_9 dX0_weightOf_29 ?_
          refine r_iload_n hC dX0_weightOf_32 rfl 3 rfl ?_
          refine r_gd (fun g10 => ?_)
          refine r_iald hC 7 8 rfl rfl g10 dX0_weightOf_33 ?_
          refine r_nmI (fun v11 => ?_)
          refine r_gd (fun g12 => ?_)
          refine r_iald hC 2 16 rfl rfl g12 dX0_weightOf_34 ?_
          refine r_nmI (fun v13 => ?_)
          refine r_iadd hC dX0_weightOf_35 ?_
          refine r_nmI (fun v14 => ?_)
          refine r_istore_n (lv' := [(2, .int v14), (0, .ref (wA w 6)), (1, .ref (wA w 1)), (3, .int x2)]) hC dX0_weightOf_36 rfl (by decide) rfl ?_
          exact r_lv [1, 2, 0, 3] rfl (hj8 v14)
set_option maxHeartbeats 4000000 in
set_option maxRecDepth 100000 in
theorem c_X0_weightOf {l : Launch} {w : Wd} (hW : HWd w shX rX 66) (σ : St)   : ∀ res, f_X0_weightOf σ = some res → MtI l yX0_weightOf cX0_weightOf 4 .int 1 21 w [.ref (wA w 6), .ref (wA w 1)] σ (res, σ) := by
  refine mt_P (by decide) rfl hW (fun X hl0 hC hret => ?_)
  show RF X w (Aw w (xs_ X).heap.size) 4 (fun r => QI X w (r, σ)) (f_X0_weightOf σ) 0 [(0, .ref (wA w 6)), (1, .ref (wA w 1))] [] σ
  unfold f_X0_weightOf
  refine r_iconst (v := 0) hC dX0_weightOf_0 (by decide) ?_
  refine r_istore_n (lv' := [(2, .int 0), (0, .ref (wA w 6)), (1, .ref (wA w 1))]) hC dX0_weightOf_1 rfl (by decide) rfl ?_
  refine r_iconst (v := 0) hC dX0_weightOf_2 (by decide) ?_
  refine r_istore_n (lv' := [(3, .int 0), (2, .int 0), (0, .ref (wA w 6)), (1, .ref (wA w 1))]) hC dX0_weightOf_3 rfl (by decide) rfl ?_
  refine r_lv [2, 3, 1, 0] rfl ?_
  exact w_X0_weightOf_l4 hC hret σ FU 0 0
set_option maxHeartbeats 4000000 in
set_option maxRecDepth 100000 in
theorem c_X2_add {l : Launch} {w : Wd} (hW : HWd w shX rX 66) (σ : St) (a2 : Int32) (a3 : Int32) (a4 : Int32) (a5 : Int32)  : ∀ res, f_X2_add σ a2 a3 a4 a5 = some res → MtI l yX2_add cX2_add 5 .int 0 0 w [.ref (wA w 1), .int a2, .int a3, .int a4, .int a5] σ res := by
  refine mt_I (by decide) rfl hW (fun X hl0 hC hret => ?_)
  show RF X w (Aw w (xs_ X).heap.size) 5 (QI X w) (f_X2_add σ a2 a3 a4 a5) 0 [(0, .ref (wA w 1)), (1, .int a2), (2, .int a3), (3, .int a4), (4, .int a5)] [] σ
  unfold f_X2_add
  refine r_aload_n hC dX2_add_0 rfl 0 rfl ?_
  refine r_getI hC clX2 1 4 rfl rfl (hC.n rfl) rfl lf_X2_24 dX2_add_1 ?_
  refine r_nmI (fun v1 => ?_)
  refine r_bipush (v := 16) hC dX2_add_4 (by decide) ?_
  refine r_icmp_lt hC 12 dX2_add_6 (by decide) (fun c2 => ?_) (fun c2 => ?_)
  · refine r_aload_n hC dX2_add_12 rfl 0 rfl ?_
    refine r_getR hC clX2 1 0 2 rfl rfl rfl (hC.n rfl) rfl lf_X2_9 dX2_add_13 ?_
    refine r_aload_n hC dX2_add_16 rfl 0 rfl ?_
    refine r_getI hC clX2 1 4 rfl rfl (hC.n rfl) rfl lf_X2_24 dX2_add_17 ?_
    refine r_nmI (fun v3 => ?_)
    refine r_iload_n hC dX2_add_20 rfl 1 rfl ?_
    refine r_gd (fun g4 => ?_)
    refine r_iast hC 2 16 rfl rfl g4 dX2_add_21 ?_
    refine r_nmS (fun σ5 => ?_)
    refine r_aload_n hC dX2_add_22 rfl 0 rfl ?_
    refine r_getR hC clX2 1 1 3 rfl rfl rfl (hC.n rfl) rfl lf_X2_15 dX2_add_23 ?_
    refine r_aload_n hC dX2_add_26 rfl 0 rfl ?_
    refine r_getI hC clX2 1 4 rfl rfl (hC.n rfl) rfl lf_X2_24 dX2_add_27 ?_
    refine r_nmI (fun v6 => ?_)
    refine r_iload_n hC dX2_add_30 rfl 2 rfl ?_
    refine r_gd (fun g7 => ?_)
    refine r_iast hC 3 16 rfl rfl g7 dX2_add_31 ?_
    refine r_nmS (fun σ8 => ?_)
    refine r_aload_n hC dX2_add_32 rfl 0 rfl ?_
    refine r_getR hC clX2 1 2 4 rfl rfl rfl (hC.n rfl) rfl lf_X2_18 dX2_add_33 ?_
    refine r_aload_n hC dX2_add_36 rfl 0 rfl ?_
    refine r_getI hC clX2 1 4 rfl rfl (hC.n rfl) rfl lf_X2_24 dX2_add_37 ?_
    refine r_nmI (fun v9 => ?_)
    refine r_iload_n hC dX2_add_40 rfl 3 rfl ?_
    refine r_gd (fun g10 => ?_)
    refine r_iast hC 4 16 rfl rfl g10 dX2_add_41 ?_
    refine r_nmS (fun σ11 => ?_)
    refine r_aload_n hC dX2_add_42 rfl 0 rfl ?_
    refine r_getR hC clX2 1 3 5 rfl rfl rfl (hC.n rfl) rfl lf_X2_21 dX2_add_43 ?_
    refine r_aload_n hC dX2_add_46 rfl 0 rfl ?_
    refine r_getI hC clX2 1 4 rfl rfl (hC.n rfl) rfl lf_X2_24 dX2_add_47 ?_
    refine r_nmI (fun v12 => ?_)
    refine r_iload hC dX2_add_50 4 rfl ?_
    refine r_gd (fun g13 => ?_)
    refine r_iast hC 5 16 rfl rfl g13 dX2_add_52 ?_
    refine r_nmS (fun σ14 => ?_)
    refine r_aload_n hC dX2_add_53 rfl 0 rfl ?_
    refine r_dup hC dX2_add_54 rfl ?_
    refine r_getI hC clX2 1 4 rfl rfl (hC.n rfl) rfl lf_X2_24 dX2_add_55 ?_
    refine r_nmI (fun v15 => ?_)
    refine r_iconst (v := 1) hC dX2_add_58 (by decide) ?_
    refine r_iadd hC dX2_add_59 ?_
    refine r_putI hC clX2 1 4 rfl rfl rfl (hC.n rfl) rfl rfl lf_X2_24 dX2_add_60 ?_
    refine r_nmS (fun σ16 => ?_)
    refine r_aload_n hC dX2_add_63 rfl 0 rfl ?_
    refine r_getI hC clX2 1 4 rfl rfl (hC.n rfl) rfl lf_X2_24 dX2_add_64 ?_
    refine r_nmI (fun v17 => ?_)
    refine r_iconst (v := 1) hC dX2_add_67 (by decide) ?_
    refine r_isub hC dX2_add_68 ?_
    exact r_iret hC hret rfl dX2_add_69
  · refine r_bipush (v := (-4)) hC dX2_add_9 (by decide) ?_
    exact r_iret hC hret rfl dX2_add_11
set_option maxHeartbeats 4000000 in
set_option maxRecDepth 100000 in
theorem c_X3_has {l : Launch} {w : Wd} (hW : HWd w shX rX 66) (σ : St) (a1 : Int32)  : ∀ res, f_X3_has a1 = some res → MtI l yX3_has cX3_has 1 .boolean 0 0 w [.int a1] σ (res, σ) := by
  refine mt_P (by decide) rfl hW (fun X hl0 hC hret => ?_)
  show RF X w (Aw w (xs_ X).heap.size) 1 (fun r => QI X w (r, σ)) (f_X3_has a1) 0 [(0, .int a1)] [] σ
  unfold f_X3_has
  refine r_iload_n hC dX3_has_0 rfl 0 rfl ?_
  refine r_if_lt hC 13 dX3_has_1 (by decide) (fun c1 => ?_) (fun c1 => ?_)
  · refine r_iconst (v := 0) hC dX3_has_13 (by decide) ?_
    exact r_iretP hC hret rfl dX3_has_14
  · refine r_iload_n hC dX3_has_4 rfl 0 rfl ?_
    refine r_iconst (v := 5) hC dX3_has_5 (by decide) ?_
    refine r_icmp_gt hC 13 dX3_has_6 (by decide) (fun c2 => ?_) (fun c2 => ?_)
    · refine r_iconst (v := 0) hC dX3_has_13 (by decide) ?_
      exact r_iretP hC hret rfl dX3_has_14
    · refine r_iconst (v := 1) hC dX3_has_9 (by decide) ?_
      refine r_goto hC 14 dX3_has_10 (by decide) ?_
      exact r_iretP hC hret rfl dX3_has_14
set_option maxHeartbeats 4000000 in
set_option maxRecDepth 100000 in
theorem c_X3_latePull {l : Launch} {w : Wd} (hW : HWd w shX rX 66) (σ : St) (a1 : Int32) (a2 : Int32)  : ∀ res, f_X3_latePull a1 a2 = some res → MtI l yX3_latePull cX3_latePull 2 .int 0 0 w [.int a1, .int a2] σ (res, σ) := by
  refine mt_P (by decide) rfl hW (fun X hl0 hC hret => ?_)
  show RF X w (Aw w (xs_ X).heap.size) 2 (fun r => QI X w (r, σ)) (f_X3_latePull a1 a2) 0 [(0, .int a1), (1, .int a2)] [] σ
  unfold f_X3_latePull
  refine r_iload_n hC dX3_latePull_0 rfl 1 rfl ?_
  refine r_if_ne hC 10 dX3_latePull_1 (by decide) (fun c1 => ?_) (fun c1 => ?_)
  · refine r_iload_n hC dX3_latePull_10 rfl 0 rfl ?_
    exact r_iretP hC hret rfl dX3_latePull_11
  · refine r_iload_n hC dX3_latePull_4 rfl 0 rfl ?_
    refine r_iconst (v := 2) hC dX3_latePull_5 (by decide) ?_
    refine r_idiv hC dX3_latePull_6 (by decide) ?_
    refine r_goto hC 11 dX3_latePull_7 (by decide) ?_
    exact r_iretP hC hret rfl dX3_latePull_11
set_option maxHeartbeats 4000000 in
set_option maxRecDepth 100000 in
theorem c_X3_pull {l : Launch} {w : Wd} (hW : HWd w shX rX 66) (σ : St) (a1 : Int32) (a2 : Int32) (a3 : Int32)  : ∀ res, f_X3_pull a1 a2 a3 = some res → MtI l yX3_pull cX3_pull 3 .int 1 24 w [.int a1, .int a2, .int a3] σ (res, σ) := by
  refine mt_P (by decide) rfl hW (fun X hl0 hC hret => ?_)
  show RF X w (Aw w (xs_ X).heap.size) 3 (fun r => QI X w (r, σ)) (f_X3_pull a1 a2 a3) 0 [(0, .int a1), (1, .int a2), (2, .int a3)] [] σ
  unfold f_X3_pull
  refine r_iload_n hC dX3_pull_0 rfl 0 rfl ?_
  refine r_tab1 (off := 35) hC 36 1 dX3_pull_1 (by decide) (by decide) (by decide) (by decide) ?_ (fun c1 => ?_)
  · refine r_iconst (v := 2) hC dX3_pull_36 (by decide) ?_
    refine r_iload_n hC dX3_pull_37 rfl 1 rfl ?_
    refine r_imul hC dX3_pull_38 ?_
    refine r_iconst (v := 3) hC dX3_pull_39 (by decide) ?_
    refine r_idiv hC dX3_pull_40 (by decide) ?_
    exact r_iretP hC hret rfl dX3_pull_41
  · refine r_tab1 (off := 41) hC 42 2 dX3_pull_1 (by decide) (by decide) (by decide) (by decide) ?_ (fun c2 => ?_)
    · refine r_iload_n hC dX3_pull_42 rfl 1 rfl ?_
      refine r_iload_n hC dX3_pull_43 rfl 1 rfl ?_
      refine r_iconst (v := 4) hC dX3_pull_44 (by decide) ?_
      refine r_idiv hC dX3_pull_45 (by decide) ?_
      refine r_iadd hC dX3_pull_46 ?_
      exact r_iretP hC hret rfl dX3_pull_47
    · refine r_tab1 (off := 47) hC 48 3 dX3_pull_1 (by decide) (by decide) (by decide) (by decide) ?_ (fun c4 => ?_)
      · refine r_iload_n hC dX3_pull_48 rfl 1 rfl ?_
        refine r_iload_n hC dX3_pull_49 rfl 2 rfl ?_
        refine r_callSP hC (st := []) [.int a2, .int a3] (c_X3_latePull hC.w σ a2 a3) yk_X3_latePull lm_X3_9 rfl ⟨rfl, rfl⟩ rfl dX3_pull_50 (fun v3 => ?_)
        exact r_iretP hC hret rfl dX3_pull_53
      · refine r_tab1 (off := 53) hC 54 4 dX3_pull_1 (by decide) (by decide) (by decide) (by decide) ?_ (fun c8 => ?_)
        · refine r_iconst (v := 0) hC dX3_pull_54 (by decide) ?_
          refine r_iload_n hC dX3_pull_55 rfl 1 rfl ?_
          refine r_iload_n hC dX3_pull_56 rfl 2 rfl ?_
          refine r_callSP hC (st := [.int 0]) [.int a2, .int a3] (c_X3_latePull hC.w σ a2 a3) yk_X3_latePull lm_X3_9 rfl ⟨rfl, rfl⟩ rfl dX3_pull_57 (fun v5 => ?_)
          refine r_iconst (v := 3) hC dX3_pull_60 (by decide) ?_
          refine r_isub hC dX3_pull_61 ?_
          refine r_nmI (fun v6 => ?_)
          refine r_mmax hC (by decide) (Nat.le_of_ble_eq_true rfl) lm_X3_13 ws_mmax wi_math wc_mmax dX3_pull_62 ?_
          refine r_nmI (fun v7 => ?_)
          exact r_iretP hC hret rfl dX3_pull_65
        · refine r_tab1 (off := 65) hC 66 5 dX3_pull_1 (by decide) (by decide) (by decide) (by decide) ?_ (fun c9 => ?_)
          · refine r_iconst (v := 2) hC dX3_pull_66 (by decide) ?_
            refine r_iload_n hC dX3_pull_67 rfl 1 rfl ?_
            refine r_imul hC dX3_pull_68 ?_
            refine r_iconst (v := 3) hC dX3_pull_69 (by decide) ?_
            refine r_idiv hC dX3_pull_70 (by decide) ?_
            refine r_iconst (v := 2) hC dX3_pull_71 (by decide) ?_
            refine r_idiv hC dX3_pull_72 (by decide) ?_
            exact r_iretP hC hret rfl dX3_pull_73
          · refine r_tabD hC 74 dX3_pull_1 (by have e0 := ne_toInt (a := 1) (by decide) c1; have e1 := ne_toInt (a := 2) (by decide) c2; have e2 := ne_toInt (a := 3) (by decide) c4; have e3 := ne_toInt (a := 4) (by decide) c8; have e4 := ne_toInt (a := 5) (by decide) c9; omega) (by decide) ?_
            refine r_iload_n hC dX3_pull_74 rfl 1 rfl ?_
            exact r_iretP hC hret rfl dX3_pull_75
set_option maxHeartbeats 4000000 in
set_option maxRecDepth 100000 in
theorem c_X3_cost {l : Launch} {w : Wd} (hW : HWd w shX rX 66) (σ : St) (a1 : Int32) (a2 : Int32)  : ∀ res, f_X3_cost a1 a2 = some res → MtI l yX3_cost cX3_cost 2 .int 0 0 w [.int a1, .int a2] σ (res, σ) := by
  refine mt_P (by decide) rfl hW (fun X hl0 hC hret => ?_)
  show RF X w (Aw w (xs_ X).heap.size) 2 (fun r => QI X w (r, σ)) (f_X3_cost a1 a2) 0 [(0, .int a1), (1, .int a2)] [] σ
  unfold f_X3_cost
  refine r_iload_n hC dX3_cost_0 rfl 0 rfl ?_
  refine r_tab1 (off := 35) hC 36 1 dX3_cost_1 (by decide) (by decide) (by decide) (by decide) ?_ (fun c1 => ?_)
  · refine r_iload_n hC dX3_cost_36 rfl 1 rfl ?_
    refine r_iconst (v := 5) hC dX3_cost_37 (by decide) ?_
    refine r_iadd hC dX3_cost_38 ?_
    exact r_iretP hC hret rfl dX3_cost_39
  · refine r_tab1 (off := 39) hC 40 2 dX3_cost_1 (by decide) (by decide) (by decide) (by decide) ?_ (fun c2 => ?_)
    · refine r_iconst (v := 2) hC dX3_cost_40 (by decide) ?_
      refine r_iload_n hC dX3_cost_41 rfl 1 rfl ?_
      refine r_imul hC dX3_cost_42 ?_
      exact r_iretP hC hret rfl dX3_cost_43
    · refine r_tab1 (off := 53) hC 54 3 dX3_cost_1 (by decide) (by decide) (by decide) (by decide) ?_ (fun c3 => ?_)
      · refine r_iload_n hC dX3_cost_54 rfl 1 rfl ?_
        exact r_iretP hC hret rfl dX3_cost_55
      · refine r_tab1 (off := 43) hC 44 4 dX3_cost_1 (by decide) (by decide) (by decide) (by decide) ?_ (fun c4 => ?_)
        · refine r_iload_n hC dX3_cost_44 rfl 1 rfl ?_
          refine r_iconst (v := 2) hC dX3_cost_45 (by decide) ?_
          refine r_iadd hC dX3_cost_46 ?_
          exact r_iretP hC hret rfl dX3_cost_47
        · refine r_tab1 (off := 47) hC 48 5 dX3_cost_1 (by decide) (by decide) (by decide) (by decide) ?_ (fun c5 => ?_)
          · refine r_iload_n hC dX3_cost_48 rfl 1 rfl ?_
            refine r_iconst (v := 5) hC dX3_cost_49 (by decide) ?_
            refine r_iadd hC dX3_cost_50 ?_
            refine r_iconst (v := 3) hC dX3_cost_51 (by decide) ?_
            refine r_idiv hC dX3_cost_52 (by decide) ?_
            exact r_iretP hC hret rfl dX3_cost_53
          · refine r_tabD hC 54 dX3_cost_1 (by have e0 := ne_toInt (a := 1) (by decide) c1; have e1 := ne_toInt (a := 2) (by decide) c2; have e2 := ne_toInt (a := 3) (by decide) c3; have e3 := ne_toInt (a := 4) (by decide) c4; have e4 := ne_toInt (a := 5) (by decide) c5; omega) (by decide) ?_
            refine r_iload_n hC dX3_cost_54 rfl 1 rfl ?_
            exact r_iretP hC hret rfl dX3_cost_55
set_option maxHeartbeats 4000000 in
set_option maxRecDepth 100000 in
theorem c_X3_slips {l : Launch} {w : Wd} (hW : HWd w shX rX 66) (σ : St) (a1 : Int32)  : ∀ res, f_X3_slips a1 = some res → MtI l yX3_slips cX3_slips 1 .int 0 0 w [.int a1] σ (res, σ) := by
  refine mt_P (by decide) rfl hW (fun X hl0 hC hret => ?_)
  show RF X w (Aw w (xs_ X).heap.size) 1 (fun r => QI X w (r, σ)) (f_X3_slips a1) 0 [(0, .int a1)] [] σ
  unfold f_X3_slips
  refine r_iload_n hC dX3_slips_0 rfl 0 rfl ?_
  refine r_tab1 (off := 27) hC 28 2 dX3_slips_1 (by decide) (by decide) (by decide) (by decide) ?_ (fun c1 => ?_)
  · refine r_iconst (v := 1) hC dX3_slips_28 (by decide) ?_
    exact r_iretP hC hret rfl dX3_slips_29
  · refine r_tab1 (off := 29) hC 30 3 dX3_slips_1 (by decide) (by decide) (by decide) (by decide) ?_ (fun c2 => ?_)
    · refine r_iconst (v := 3) hC dX3_slips_30 (by decide) ?_
      exact r_iretP hC hret rfl dX3_slips_31
    · refine r_tab1 (off := 31) hC 32 4 dX3_slips_1 (by decide) (by decide) (by decide) (by decide) ?_ (fun c3 => ?_)
      · refine r_iconst (v := 5) hC dX3_slips_32 (by decide) ?_
        exact r_iretP hC hret rfl dX3_slips_33
      · refine r_tabD hC 34 dX3_slips_1 (by have e0 := ne_toInt (a := 2) (by decide) c1; have e1 := ne_toInt (a := 3) (by decide) c2; have e2 := ne_toInt (a := 4) (by decide) c3; omega) (by decide) ?_
        refine r_iconst (v := 0) hC dX3_slips_34 (by decide) ?_
        exact r_iretP hC hret rfl dX3_slips_35
set_option maxHeartbeats 4000000 in
set_option maxRecDepth 100000 in
theorem c_X3_isUnder {l : Launch} {w : Wd} (hW : HWd w shX rX 66) (σ : St) (a1 : Int32) (a2 : Int32)  : ∀ res, f_X3_isUnder a1 a2 = some res → MtI l yX3_isUnder cX3_isUnder 2 .boolean 0 0 w [.int a1, .int a2] σ (res, σ) := by
  refine mt_P (by decide) rfl hW (fun X hl0 hC hret => ?_)
  show RF X w (Aw w (xs_ X).heap.size) 2 (fun r => QI X w (r, σ)) (f_X3_isUnder a1 a2) 0 [(0, .int a1), (1, .int a2)] [] σ
  unfold f_X3_isUnder
  refine r_iload_n hC dX3_isUnder_0 rfl 1 rfl ?_
  refine r_if_eq hC 29 dX3_isUnder_1 (by decide) (fun c1 => ?_) (fun c1 => ?_)
  · refine r_iconst (v := 1) hC dX3_isUnder_29 (by decide) ?_
    refine r_goto hC 34 dX3_isUnder_30 (by decide) ?_
    exact r_iretP hC hret rfl dX3_isUnder_34
  · refine r_iload_n hC dX3_isUnder_4 rfl 0 rfl ?_
    refine r_iload_n hC dX3_isUnder_5 rfl 1 rfl ?_
    refine r_icmp_eq hC 29 dX3_isUnder_6 (by decide) (fun c2 => ?_) (fun c2 => ?_)
    · refine r_iconst (v := 1) hC dX3_isUnder_29 (by decide) ?_
      refine r_goto hC 34 dX3_isUnder_30 (by decide) ?_
      exact r_iretP hC hret rfl dX3_isUnder_34
    · refine r_iload_n hC dX3_isUnder_9 rfl 0 rfl ?_
      refine r_iconst (v := 4) hC dX3_isUnder_10 (by decide) ?_
      refine r_jn (T := fun (j3 : Option Int32) => RF X w (Aw w (xs_ X).heap.size) 2 (fun r => QI X w (r, σ)) j3 19 [(0, .int a1), (1, .int a2)] [] σ) ?_ (fun j3 hj3 => ?_)
      · refine r_iload_n hC dX3_isUnder_19 rfl 0 rfl ?_
        refine r_iconst (v := 5) hC dX3_isUnder_20 (by decide) ?_
        refine r_icmp_ne hC 33 dX3_isUnder_21 (by decide) (fun c4 => ?_) (fun c4 => ?_)
        · refine r_iconst (v := 0) hC dX3_isUnder_33 (by decide) ?_
          exact r_iretP hC hret rfl dX3_isUnder_34
        · refine r_iload_n hC dX3_isUnder_24 rfl 1 rfl ?_
          refine r_iconst (v := 1) hC dX3_isUnder_25 (by decide) ?_
          refine r_icmp_ne hC 33 dX3_isUnder_26 (by decide) (fun c5 => ?_) (fun c5 => ?_)
          · refine r_iconst (v := 0) hC dX3_isUnder_33 (by decide) ?_
            exact r_iretP hC hret rfl dX3_isUnder_34
          · refine r_iconst (v := 1) hC dX3_isUnder_29 (by decide) ?_
            refine r_goto hC 34 dX3_isUnder_30 (by decide) ?_
            exact r_iretP hC hret rfl dX3_isUnder_34
      · refine r_icmp_ne hC 19 dX3_isUnder_11 (by decide) (fun c6 => ?_) (fun c6 => ?_)
        · exact r_lv [0, 1] rfl hj3
        · refine r_iload_n hC dX3_isUnder_14 rfl 1 rfl ?_
          refine r_iconst (v := 3) hC dX3_isUnder_15 (by decide) ?_
          refine r_icmp_eq hC 29 dX3_isUnder_16 (by decide) (fun c7 => ?_) (fun c7 => ?_)
          · refine r_iconst (v := 1) hC dX3_isUnder_29 (by decide) ?_
            refine r_goto hC 34 dX3_isUnder_30 (by decide) ?_
            exact r_iretP hC hret rfl dX3_isUnder_34
          · exact r_lv [0, 1] rfl hj3
set_option maxHeartbeats 4000000 in
set_option maxRecDepth 100000 in
theorem c_X5_isLane {l : Launch} {w : Wd} (hW : HWd w shX rX 66) (σ : St) (a1 : Int32)  : ∀ res, f_X5_isLane a1 = some res → MtI l yX5_isLane cX5_isLane 1 .boolean 0 0 w [.int a1] σ (res, σ) := by
  refine mt_P (by decide) rfl hW (fun X hl0 hC hret => ?_)
  show RF X w (Aw w (xs_ X).heap.size) 1 (fun r => QI X w (r, σ)) (f_X5_isLane a1) 0 [(0, .int a1)] [] σ
  unfold f_X5_isLane
  refine r_iload_n hC dX5_isLane_0 rfl 0 rfl ?_
  refine r_if_lt hC 14 dX5_isLane_1 (by decide) (fun c1 => ?_) (fun c1 => ?_)
  · refine r_iconst (v := 0) hC dX5_isLane_14 (by decide) ?_
    exact r_iretP hC hret rfl dX5_isLane_15
  · refine r_iload_n hC dX5_isLane_4 rfl 0 rfl ?_
    refine r_bipush (v := 6) hC dX5_isLane_5 (by decide) ?_
    refine r_icmp_ge hC 14 dX5_isLane_7 (by decide) (fun c2 => ?_) (fun c2 => ?_)
    · refine r_iconst (v := 0) hC dX5_isLane_14 (by decide) ?_
      exact r_iretP hC hret rfl dX5_isLane_15
    · refine r_iconst (v := 1) hC dX5_isLane_10 (by decide) ?_
      refine r_goto hC 15 dX5_isLane_11 (by decide) ?_
      exact r_iretP hC hret rfl dX5_isLane_15
set_option maxHeartbeats 4000000 in
set_option maxRecDepth 100000 in
theorem w_X5_add_l2 {X : Mc} {w : Wd} (hC : Cok X w (Aw w (xs_ X).heap.size) yX5_add.cls cX5_add 3 1 60 shX rX 66) (hret : (xmeth X).sig.returnType = some .int) (σ : St) (kk : Nat) (hkk : shX kk = (1, 40)) (bkk : Nat.blt kk 66 = true)  (K2 : Option (Int32 × St)) (hK2 : RF X w (Aw w (xs_ X).heap.size) 3 (QI X w) K2 32 [(0, .ref (wA w 56)), (1, .ref (wA w kk))] [] σ) : ∀ (n : Nat) (x1 : Int32), RF X w (Aw w (xs_ X).heap.size) 3 (QI X w) (f_X5_add_l2 σ kk K2 n x1) 2 [(0, .ref (wA w 56)), (1, .ref (wA w kk)), (2, .int x1)] [] σ := by
  intro n
  induction n with
  | zero => intro x1; rw [f_X5_add_l2]; exact r_none
  | succ n ih =>
    intro x1
    rw [f_X5_add_l2]
    refine r_iload_n hC dX5_add_2 rfl 2 rfl ?_
    refine r_bipush (v := 6) hC dX5_add_3 (by decide) ?_
    refine r_icmp_ge hC 32 dX5_add_5 (by decide) (fun c3 => ?_) (fun c3 => ?_)
    · exact r_lv [0, 1] rfl hK2
    · refine r_aload_n hC dX5_add_8 rfl 1 rfl ?_
      refine r_iload_n hC dX5_add_9 rfl 2 rfl ?_
      refine r_gd (fun g4 => ?_)
      refine r_iald hC kk 40 hkk bkk g4 dX5_add_10 ?_
      refine r_nmI (fun v5 => ?_)
      refine r_if_lt hC 23 dX5_add_11 (by decide) (fun c6 => ?_) (fun c6 => ?_)
      · refine r_bipush (v := (-2)) hC dX5_add_23 (by decide) ?_
        exact r_iret hC hret rfl dX5_add_25
      · refine r_aload_n hC dX5_add_14 rfl 1 rfl ?_
        refine r_iload_n hC dX5_add_15 rfl 2 rfl ?_
        refine r_gd (fun g7 => ?_)
        refine r_iald hC kk 40 hkk bkk g7 dX5_add_16 ?_
        refine r_nmI (fun v8 => ?_)
        refine r_sipush (v := 9999) hC dX5_add_17 (by decide) ?_
        refine r_icmp_le hC 26 dX5_add_20 (by decide) (fun c9 => ?_) (fun c9 => ?_)
        · refine r_iinc (v := x1 + 1) (lv' := [(2, .int (x1 + 1)), (0, .ref (wA w 56)), (1, .ref (wA w kk))]) hC dX5_add_26 2 rfl rfl (by decide) rfl ?_
          refine r_goto hC 2 dX5_add_29 (by decide) ?_
          exact r_lv [1, 2, 0] rfl (ih (x1 + 1))
        · refine r_bipush (v := (-2)) hC dX5_add_23 (by decide) ?_
          exact r_iret hC hret rfl dX5_add_25
set_option maxHeartbeats 4000000 in
set_option maxRecDepth 100000 in
theorem c_X5_add {l : Launch} {w : Wd} (hW : HWd w shX rX 66) (σ : St) (kk : Nat) (hkk : shX kk = (1, 40)) (bkk : Nat.blt kk 66 = true) : ∀ res, f_X5_add σ kk = some res → MtI l yX5_add cX5_add 3 .int 1 60 w [.ref (wA w 56), .ref (wA w kk)] σ res := by
  refine mt_I (by decide) rfl hW (fun X hl0 hC hret => ?_)
  show RF X w (Aw w (xs_ X).heap.size) 3 (QI X w) (f_X5_add σ kk) 0 [(0, .ref (wA w 56)), (1, .ref (wA w kk))] [] σ
  unfold f_X5_add
  refine r_iconst (v := 0) hC dX5_add_0 (by decide) ?_
  refine r_istore_n (lv' := [(2, .int 0), (0, .ref (wA w 56)), (1, .ref (wA w kk))]) hC dX5_add_1 rfl (by decide) rfl ?_
  refine r_lv [1, 2, 0] rfl ?_
  refine w_X5_add_l2 hC hret σ kk hkk bkk _ ?_ FU 0
  · refine r_aload_n hC dX5_add_32 rfl 0 rfl ?_
    refine r_getI hC clX5 56 1 rfl rfl (hC.n rfl) rfl lf_X5_15 dX5_add_33 ?_
    refine r_nmI (fun v10 => ?_)
    refine r_bipush (v := 20) hC dX5_add_36 (by decide) ?_
    refine r_icmp_lt hC 44 dX5_add_38 (by decide) (fun c11 => ?_) (fun c11 => ?_)
    · refine r_aload_n hC dX5_add_44 rfl 1 rfl ?_
      refine r_iconst (v := 0) hC dX5_add_45 (by decide) ?_
      refine r_aload_n hC dX5_add_46 rfl 0 rfl ?_
      refine r_getR hC clX5 56 0 57 rfl rfl rfl (hC.n rfl) rfl lf_X5_11 dX5_add_47 ?_
      refine r_aload_n hC dX5_add_50 rfl 0 rfl ?_
      refine r_getI hC clX5 56 1 rfl rfl (hC.n rfl) rfl lf_X5_15 dX5_add_51 ?_
      refine r_nmI (fun v12 => ?_)
      refine r_bipush (v := 6) hC dX5_add_54 (by decide) ?_
      refine r_imul hC dX5_add_56 ?_
      refine r_bipush (v := 6) hC dX5_add_57 (by decide) ?_
      refine r_gd (fun g13 => ?_)
      refine r_copyi hC kk 57 40 120 hkk rfl bkk rfl g13 (by decide) (Nat.le_of_ble_eq_true rfl) lm_X5_19 wn_copy ws_copy wi_sys dX5_add_59 ?_
      refine r_nmS (fun σ14 => ?_)
      refine r_aload_n hC dX5_add_62 rfl 0 rfl ?_
      refine r_dup hC dX5_add_63 rfl ?_
      refine r_getI hC clX5 56 1 rfl rfl (hC.n rfl) rfl lf_X5_15 dX5_add_64 ?_
      refine r_nmI (fun v15 => ?_)
      refine r_iconst (v := 1) hC dX5_add_67 (by decide) ?_
      refine r_iadd hC dX5_add_68 ?_
      refine r_putI hC clX5 56 1 rfl rfl rfl (hC.n rfl) rfl rfl lf_X5_15 dX5_add_69 ?_
      refine r_nmS (fun σ16 => ?_)
      refine r_aload_n hC dX5_add_72 rfl 0 rfl ?_
      refine r_getI hC clX5 56 1 rfl rfl (hC.n rfl) rfl lf_X5_15 dX5_add_73 ?_
      refine r_nmI (fun v17 => ?_)
      refine r_iconst (v := 1) hC dX5_add_76 (by decide) ?_
      refine r_isub hC dX5_add_77 ?_
      exact r_iret hC hret rfl dX5_add_78
    · refine r_bipush (v := (-4)) hC dX5_add_41 (by decide) ?_
      exact r_iret hC hret rfl dX5_add_43
set_option maxHeartbeats 4000000 in
set_option maxRecDepth 100000 in
theorem c_X5_timeOf {l : Launch} {w : Wd} (hW : HWd w shX rX 66) (σ : St) (a2 : Int32) (a3 : Int32)  : ∀ res, f_X5_timeOf σ a2 a3 = some res → MtI l yX5_timeOf cX5_timeOf 3 .int 0 0 w [.ref (wA w 56), .int a2, .int a3] σ (res, σ) := by
  refine mt_P (by decide) rfl hW (fun X hl0 hC hret => ?_)
  show RF X w (Aw w (xs_ X).heap.size) 3 (fun r => QI X w (r, σ)) (f_X5_timeOf σ a2 a3) 0 [(0, .ref (wA w 56)), (1, .int a2), (2, .int a3)] [] σ
  unfold f_X5_timeOf
  refine r_aload_n hC dX5_timeOf_0 rfl 0 rfl ?_
  refine r_getR hC clX5 56 0 57 rfl rfl rfl (hC.n rfl) rfl lf_X5_11 dX5_timeOf_1 ?_
  refine r_iload_n hC dX5_timeOf_4 rfl 1 rfl ?_
  refine r_bipush (v := 6) hC dX5_timeOf_5 (by decide) ?_
  refine r_imul hC dX5_timeOf_7 ?_
  refine r_iload_n hC dX5_timeOf_8 rfl 2 rfl ?_
  refine r_iadd hC dX5_timeOf_9 ?_
  refine r_nmI (fun v1 => ?_)
  refine r_gd (fun g2 => ?_)
  refine r_iald hC 57 120 rfl rfl g2 dX5_timeOf_10 ?_
  refine r_nmI (fun v3 => ?_)
  exact r_iretP hC hret rfl dX5_timeOf_11
set_option maxHeartbeats 4000000 in
set_option maxRecDepth 100000 in
theorem c_X5_met {l : Launch} {w : Wd} (hW : HWd w shX rX 66) (σ : St) (a2 : Int32) (a3 : Int32) (a4 : Int32)  : ∀ res, f_X5_met σ a2 a3 a4 = some res → MtI l yX5_met cX5_met 4 .boolean 1 22 w [.ref (wA w 56), .int a2, .int a3, .int a4] σ (res, σ) := by
  refine mt_P (by decide) rfl hW (fun X hl0 hC hret => ?_)
  show RF X w (Aw w (xs_ X).heap.size) 4 (fun r => QI X w (r, σ)) (f_X5_met σ a2 a3 a4) 0 [(0, .ref (wA w 56)), (1, .int a2), (2, .int a3), (3, .int a4)] [] σ
  unfold f_X5_met
  refine r_aload_n hC dX5_met_0 rfl 0 rfl ?_
  refine r_iload_n hC dX5_met_1 rfl 1 rfl ?_
  refine r_iload_n hC dX5_met_2 rfl 2 rfl ?_
  refine r_callVP hC (b := 56) (ci := 5) (st := []) [.int a2, .int a3] rfl (hC.n rfl) rfl rfl (c_X5_timeOf hC.w σ a2 a3) yk_X5_timeOf lm_X5_29 rfl ⟨rfl, rfl⟩ rfl dX5_met_3 (fun v1 => ?_)
  refine r_if_eq hC 22 dX5_met_6 (by decide) (fun c2 => ?_) (fun c2 => ?_)
  · refine r_iconst (v := 0) hC dX5_met_22 (by decide) ?_
    exact r_iretP hC hret rfl dX5_met_23
  · refine r_aload_n hC dX5_met_9 rfl 0 rfl ?_
    refine r_iload_n hC dX5_met_10 rfl 1 rfl ?_
    refine r_iload_n hC dX5_met_11 rfl 3 rfl ?_
    refine r_callVP hC (b := 56) (ci := 5) (st := []) [.int a2, .int a4] rfl (hC.n rfl) rfl rfl (c_X5_timeOf hC.w σ a2 a4) yk_X5_timeOf lm_X5_29 rfl ⟨rfl, rfl⟩ rfl dX5_met_12 (fun v3 => ?_)
    refine r_if_eq hC 22 dX5_met_15 (by decide) (fun c4 => ?_) (fun c4 => ?_)
    · refine r_iconst (v := 0) hC dX5_met_22 (by decide) ?_
      exact r_iretP hC hret rfl dX5_met_23
    · refine r_iconst (v := 1) hC dX5_met_18 (by decide) ?_
      refine r_goto hC 23 dX5_met_19 (by decide) ?_
      exact r_iretP hC hret rfl dX5_met_23
set_option maxHeartbeats 4000000 in
set_option maxRecDepth 100000 in
theorem w_X5_differences_l5 {X : Mc} {w : Wd} (hC : Cok X w (Aw w (xs_ X).heap.size) yX5_differences.cls cX5_differences 5 2 45 shX rX 66) (hret : (xmeth X).sig.returnType = some .int) (σ : St) (a2 : Int32) (a3 : Int32)     : ∀ (n : Nat) (x1 : Int32) (x2 : Int32), RF X w (Aw w (xs_ X).heap.size) 5 (fun r => QI X w (r, σ)) (f_X5_differences_l5 σ a2 a3 n x1 x2) 5 [(0, .ref (wA w 56)), (1, .int a2), (2, .int a3), (3, .int x1), (4, .int x2)] [] σ := by
  intro n
  induction n with
  | zero => intro x1 x2; rw [f_X5_differences_l5]; exact r_none
  | succ n ih =>
    intro x1 x2
    rw [f_X5_differences_l5]
    refine r_iload hC dX5_differences_5 4 rfl ?_
    refine r_aload_n hC dX5_differences_7 rfl 0 rfl ?_
    refine r_getI hC clX5 56 1 rfl rfl (hC.n rfl) rfl lf_X5_15 dX5_differences_8 ?_
    refine r_nmI (fun v3 => ?_)
    refine r_icmp_ge hC 49 dX5_differences_11 (by decide) (fun c4 => ?_) (fun c4 => ?_)
    · refine r_iload_n hC dX5_differences_49 rfl 3 rfl ?_
      exact r_iretP hC hret rfl dX5_differences_50
    · refine r_aload_n hC dX5_differences_14 rfl 0 rfl ?_
      refine r_iload hC dX5_differences_15 4 rfl ?_
      refine r_iload_n hC dX5_differences_17 rfl 1 rfl ?_
      refine r_iload_n hC dX5_differences_18 rfl 2 rfl ?_
      refine r_callVP hC (b := 56) (ci := 5) (st := []) [.int x2, .int a2, .int a3] rfl (hC.n rfl) rfl rfl (c_X5_met hC.w σ x2 a2 a3) yk_X5_met lm_X5_25 rfl ⟨rfl, rfl⟩ rfl dX5_differences_19 (fun v5 => ?_)
      refine r_jn (T := fun (j7 : Int32 → Option Int32) => ∀ (x6 : Int32), RF X w (Aw w (xs_ X).heap.size) 5 (fun r => QI X w (r, σ)) (j7 x6) 43 [(0, .ref (wA w 56)), (1, .int a2), (2, .int a3), (3, .int x6), (4, .int x2)] [] σ) ?_ (fun j7 hj7 => ?_)
      · intro x6
        refine r_iinc (v := x2 + 1) (lv' := [(4, .int (x2 + 1)), (0, .ref (wA w 56)), (1, .int a2), (2, .int a3), (3, .int x6)]) hC dX5_differences_43 4 rfl rfl (by decide) rfl ?_
        refine r_goto hC 5 dX5_differences_46 (by decide) ?_
        exact r_lv [1, 2, 3, 4, 0] rfl (ih x6 (x2 + 1))
      · refine r_if_eq hC 43 dX5_differences_22 (by decide) (fun c8 => ?_) (fun c8 => ?_)
        · exact r_lv [0, 1, 2, 3, 4] rfl (hj7 x1)
        · refine r_iload_n hC dX5_differences_25 rfl 3 rfl ?_
          refine r_aload_n hC dX5_differences_26 rfl 0 rfl ?_
          refine r_iload hC dX5_differences_27 4 rfl ?_
          refine r_iload_n hC dX5_differences_29 rfl 1 rfl ?_
          refine r_callVP hC (b := 56) (ci := 5) (st := [.int x1]) [.int x2, .int a2] rfl (hC.n rfl) rfl rfl (c_X5_timeOf hC.w σ x2 a2) yk_X5_timeOf lm_X5_29 rfl ⟨rfl, rfl⟩ rfl dX5_differences_30 (fun v9 => ?_)
          refine r_aload_n hC dX5_differences_33 rfl 0 rfl ?_
          refine r_iload hC dX5_differences_34 4 rfl ?_
          refine r_iload_n hC dX5_differences_36 rfl 2 rfl ?_
          refine r_callVP hC (b := 56) (ci := 5) (st := [.int v9, .int x1]) [.int x2, .int a3] rfl (hC.n rfl) rfl rfl (c_X5_timeOf hC.w σ x2 a3) yk_X5_timeOf lm_X5_29 rfl ⟨rfl, rfl⟩ rfl dX5_differences_37 (fun v10 => ?_)
          refine r_isub hC dX5_differences_40 ?_
          refine r_iadd hC dX5_differences_41 ?_
          refine r_nmI (fun v11 => ?_)
          refine r_istore_n (lv' := [(3, .int v11), (0, .ref (wA w 56)), (1, .int a2), (2, .int a3), (4, .int x2)]) hC dX5_differences_42 rfl (by decide) rfl ?_
          exact r_lv [1, 2, 3, 0, 4] rfl (hj7 v11)
set_option maxHeartbeats 4000000 in
set_option maxRecDepth 100000 in
theorem c_X5_differences {l : Launch} {w : Wd} (hW : HWd w shX rX 66) (σ : St) (a2 : Int32) (a3 : Int32)  : ∀ res, f_X5_differences σ a2 a3 = some res → MtI l yX5_differences cX5_differences 5 .int 2 45 w [.ref (wA w 56), .int a2, .int a3] σ (res, σ) := by
  refine mt_P (by decide) rfl hW (fun X hl0 hC hret => ?_)
  show RF X w (Aw w (xs_ X).heap.size) 5 (fun r => QI X w (r, σ)) (f_X5_differences σ a2 a3) 0 [(0, .ref (wA w 56)), (1, .int a2), (2, .int a3)] [] σ
  unfold f_X5_differences
  refine r_iconst (v := 0) hC dX5_differences_0 (by decide) ?_
  refine r_istore_n (lv' := [(3, .int 0), (0, .ref (wA w 56)), (1, .int a2), (2, .int a3)]) hC dX5_differences_1 rfl (by decide) rfl ?_
  refine r_iconst (v := 0) hC dX5_differences_2 (by decide) ?_
  refine r_istore (lv' := [(4, .int 0), (3, .int 0), (0, .ref (wA w 56)), (1, .int a2), (2, .int a3)]) hC dX5_differences_3 (by decide) rfl ?_
  refine r_lv [2, 3, 4, 1, 0] rfl ?_
  exact w_X5_differences_l5 hC hret σ a2 a3 FU 0 0
set_option maxHeartbeats 4000000 in
set_option maxRecDepth 100000 in
theorem w_X5_meetings_l5 {X : Mc} {w : Wd} (hC : Cok X w (Aw w (xs_ X).heap.size) yX5_meetings.cls cX5_meetings 5 2 45 shX rX 66) (hret : (xmeth X).sig.returnType = some .int) (σ : St) (a2 : Int32) (a3 : Int32)     : ∀ (n : Nat) (x1 : Int32) (x2 : Int32), RF X w (Aw w (xs_ X).heap.size) 5 (fun r => QI X w (r, σ)) (f_X5_meetings_l5 σ a2 a3 n x1 x2) 5 [(0, .ref (wA w 56)), (1, .int a2), (2, .int a3), (3, .int x1), (4, .int x2)] [] σ := by
  intro n
  induction n with
  | zero => intro x1 x2; rw [f_X5_meetings_l5]; exact r_none
  | succ n ih =>
    intro x1 x2
    rw [f_X5_meetings_l5]
    refine r_iload hC dX5_meetings_5 4 rfl ?_
    refine r_aload_n hC dX5_meetings_7 rfl 0 rfl ?_
    refine r_getI hC clX5 56 1 rfl rfl (hC.n rfl) rfl lf_X5_15 dX5_meetings_8 ?_
    refine r_nmI (fun v3 => ?_)
    refine r_icmp_ge hC 34 dX5_meetings_11 (by decide) (fun c4 => ?_) (fun c4 => ?_)
    · refine r_iload_n hC dX5_meetings_34 rfl 3 rfl ?_
      exact r_iretP hC hret rfl dX5_meetings_35
    · refine r_aload_n hC dX5_meetings_14 rfl 0 rfl ?_
      refine r_iload hC dX5_meetings_15 4 rfl ?_
      refine r_iload_n hC dX5_meetings_17 rfl 1 rfl ?_
      refine r_iload_n hC dX5_meetings_18 rfl 2 rfl ?_
      refine r_callVP hC (b := 56) (ci := 5) (st := []) [.int x2, .int a2, .int a3] rfl (hC.n rfl) rfl rfl (c_X5_met hC.w σ x2 a2 a3) yk_X5_met lm_X5_25 rfl ⟨rfl, rfl⟩ rfl dX5_meetings_19 (fun v5 => ?_)
      refine r_jn (T := fun (j7 : Int32 → Option Int32) => ∀ (x6 : Int32), RF X w (Aw w (xs_ X).heap.size) 5 (fun r => QI X w (r, σ)) (j7 x6) 28 [(0, .ref (wA w 56)), (1, .int a2), (2, .int a3), (3, .int x6), (4, .int x2)] [] σ) ?_ (fun j7 hj7 => ?_)
      · intro x6
        refine r_iinc (v := x2 + 1) (lv' := [(4, .int (x2 + 1)), (0, .ref (wA w 56)), (1, .int a2), (2, .int a3), (3, .int x6)]) hC dX5_meetings_28 4 rfl rfl (by decide) rfl ?_
        refine r_goto hC 5 dX5_meetings_31 (by decide) ?_
        exact r_lv [1, 2, 3, 4, 0] rfl (ih x6 (x2 + 1))
      · refine r_if_eq hC 28 dX5_meetings_22 (by decide) (fun c8 => ?_) (fun c8 => ?_)
        · exact r_lv [0, 1, 2, 3, 4] rfl (hj7 x1)
        · refine r_iinc (v := x1 + 1) (lv' := [(3, .int (x1 + 1)), (0, .ref (wA w 56)), (1, .int a2), (2, .int a3), (4, .int x2)]) hC dX5_meetings_25 3 rfl rfl (by decide) rfl ?_
          exact r_lv [1, 2, 3, 0, 4] rfl (hj7 (x1 + 1))
set_option maxHeartbeats 4000000 in
set_option maxRecDepth 100000 in
theorem c_X5_meetings {l : Launch} {w : Wd} (hW : HWd w shX rX 66) (σ : St) (a2 : Int32) (a3 : Int32)  : ∀ res, f_X5_meetings σ a2 a3 = some res → MtI l yX5_meetings cX5_meetings 5 .int 2 45 w [.ref (wA w 56), .int a2, .int a3] σ (res, σ) := by
  refine mt_P (by decide) rfl hW (fun X hl0 hC hret => ?_)
  show RF X w (Aw w (xs_ X).heap.size) 5 (fun r => QI X w (r, σ)) (f_X5_meetings σ a2 a3) 0 [(0, .ref (wA w 56)), (1, .int a2), (2, .int a3)] [] σ
  unfold f_X5_meetings
  refine r_iconst (v := 0) hC dX5_meetings_0 (by decide) ?_
  refine r_istore_n (lv' := [(3, .int 0), (0, .ref (wA w 56)), (1, .int a2), (2, .int a3)]) hC dX5_meetings_1 rfl (by decide) rfl ?_
  refine r_iconst (v := 0) hC dX5_meetings_2 (by decide) ?_
  refine r_istore (lv' := [(4, .int 0), (3, .int 0), (0, .ref (wA w 56)), (1, .int a2), (2, .int a3)]) hC dX5_meetings_3 (by decide) rfl ?_
  refine r_lv [2, 3, 4, 1, 0] rfl ?_
  exact w_X5_meetings_l5 hC hret σ a2 a3 FU 0 0
set_option maxHeartbeats 4000000 in
set_option maxRecDepth 100000 in
theorem w_X5_isFirst_l2 {X : Mc} {w : Wd} (hC : Cok X w (Aw w (xs_ X).heap.size) yX5_isFirst.cls cX5_isFirst 4 1 22 shX rX 66) (hret : (xmeth X).sig.returnType = some .boolean) (σ : St) (a2 : Int32) (a3 : Int32)     : ∀ (n : Nat) (x1 : Int32), RF X w (Aw w (xs_ X).heap.size) 4 (fun r => QI X w (r, σ)) (f_X5_isFirst_l2 σ a2 a3 n x1) 2 [(0, .ref (wA w 56)), (1, .int a2), (2, .int a3), (3, .int x1)] [] σ := by
  intro n
  induction n with
  | zero => intro x1; rw [f_X5_isFirst_l2]; exact r_none
  | succ n ih =>
    intro x1
    rw [f_X5_isFirst_l2]
    refine r_iload_n hC dX5_isFirst_2 rfl 3 rfl ?_
    refine r_bipush (v := 6) hC dX5_isFirst_3 (by decide) ?_
    refine r_icmp_ge hC 40 dX5_isFirst_5 (by decide) (fun c2 => ?_) (fun c2 => ?_)
    · refine r_iconst (v := 1) hC dX5_isFirst_40 (by decide) ?_
      exact r_iretP hC hret rfl dX5_isFirst_41
    · refine r_aload_n hC dX5_isFirst_8 rfl 0 rfl ?_
      refine r_iload_n hC dX5_isFirst_9 rfl 1 rfl ?_
      refine r_iload_n hC dX5_isFirst_10 rfl 3 rfl ?_
      refine r_callVP hC (b := 56) (ci := 5) (st := []) [.int a2, .int x1] rfl (hC.n rfl) rfl rfl (c_X5_timeOf hC.w σ a2 x1) yk_X5_timeOf lm_X5_29 rfl ⟨rfl, rfl⟩ rfl dX5_isFirst_11 (fun v3 => ?_)
      refine r_jn (T := fun (j4 : Option Int32) => RF X w (Aw w (xs_ X).heap.size) 4 (fun r => QI X w (r, σ)) j4 34 [(0, .ref (wA w 56)), (1, .int a2), (2, .int a3), (3, .int x1)] [] σ) ?_ (fun j4 hj4 => ?_)
      · refine r_iinc (v := x1 + 1) (lv' := [(3, .int (x1 + 1)), (0, .ref (wA w 56)), (1, .int a2), (2, .int a3)]) hC dX5_isFirst_34 3 rfl rfl (by decide) rfl ?_
        refine r_goto hC 2 dX5_isFirst_37 (by decide) ?_
        exact r_lv [1, 2, 3, 0] rfl (ih (x1 + 1))
      · refine r_if_eq hC 34 dX5_isFirst_14 (by decide) (fun c5 => ?_) (fun c5 => ?_)
        · exact r_lv [0, 1, 2, 3] rfl hj4
        · refine r_aload_n hC dX5_isFirst_17 rfl 0 rfl ?_
          refine r_iload_n hC dX5_isFirst_18 rfl 1 rfl ?_
          refine r_iload_n hC dX5_isFirst_19 rfl 3 rfl ?_
          refine r_callVP hC (b := 56) (ci := 5) (st := []) [.int a2, .int x1] rfl (hC.n rfl) rfl rfl (c_X5_timeOf hC.w σ a2 x1) yk_X5_timeOf lm_X5_29 rfl ⟨rfl, rfl⟩ rfl dX5_isFirst_20 (fun v6 => ?_)
          refine r_aload_n hC dX5_isFirst_23 rfl 0 rfl ?_
          refine r_iload_n hC dX5_isFirst_24 rfl 1 rfl ?_
          refine r_iload_n hC dX5_isFirst_25 rfl 2 rfl ?_
          refine r_callVP hC (b := 56) (ci := 5) (st := [.int v6]) [.int a2, .int a3] rfl (hC.n rfl) rfl rfl (c_X5_timeOf hC.w σ a2 a3) yk_X5_timeOf lm_X5_29 rfl ⟨rfl, rfl⟩ rfl dX5_isFirst_26 (fun v7 => ?_)
          refine r_icmp_ge hC 34 dX5_isFirst_29 (by decide) (fun c8 => ?_) (fun c8 => ?_)
          · exact r_lv [0, 1, 2, 3] rfl hj4
          · refine r_iconst (v := 0) hC dX5_isFirst_32 (by decide) ?_
            exact r_iretP hC hret rfl dX5_isFirst_33
set_option maxHeartbeats 4000000 in
set_option maxRecDepth 100000 in
theorem c_X5_isFirst {l : Launch} {w : Wd} (hW : HWd w shX rX 66) (σ : St) (a2 : Int32) (a3 : Int32)  : ∀ res, f_X5_isFirst σ a2 a3 = some res → MtI l yX5_isFirst cX5_isFirst 4 .boolean 1 22 w [.ref (wA w 56), .int a2, .int a3] σ (res, σ) := by
  refine mt_P (by decide) rfl hW (fun X hl0 hC hret => ?_)
  show RF X w (Aw w (xs_ X).heap.size) 4 (fun r => QI X w (r, σ)) (f_X5_isFirst σ a2 a3) 0 [(0, .ref (wA w 56)), (1, .int a2), (2, .int a3)] [] σ
  unfold f_X5_isFirst
  refine r_iconst (v := 0) hC dX5_isFirst_0 (by decide) ?_
  refine r_istore_n (lv' := [(3, .int 0), (0, .ref (wA w 56)), (1, .int a2), (2, .int a3)]) hC dX5_isFirst_1 rfl (by decide) rfl ?_
  refine r_lv [1, 2, 3, 0] rfl ?_
  exact w_X5_isFirst_l2 hC hret σ a2 a3 FU 0
set_option maxHeartbeats 4000000 in
set_option maxRecDepth 100000 in
theorem w_X5_isFair_l7 {X : Mc} {w : Wd} (hC : Cok X w (Aw w (xs_ X).heap.size) yX5_isFair.cls cX5_isFair 5 2 45 shX rX 66) (hret : (xmeth X).sig.returnType = some .boolean) (σ : St) (a2 : Int32)   (K6 : Int32 → Int32 → Option Int32) (hK6 : ∀ (x4 : Int32) (x5 : Int32), RF X w (Aw w (xs_ X).heap.size) 5 (fun r => QI X w (r, σ)) (K6 x4 x5) 53 [(2, .int x4), (3, .int x5)] [] σ) : ∀ (n : Nat) (x1 : Int32) (x2 : Int32) (x3 : Int32), RF X w (Aw w (xs_ X).heap.size) 5 (fun r => QI X w (r, σ)) (f_X5_isFair_l7 σ a2 K6 n x1 x2 x3) 7 [(0, .ref (wA w 56)), (1, .int a2), (2, .int x1), (3, .int x2), (4, .int x3)] [] σ := by
  intro n
  induction n with
  | zero => intro x1 x2 x3; rw [f_X5_isFair_l7]; exact r_none
  | succ n ih =>
    intro x1 x2 x3
    rw [f_X5_isFair_l7]
    refine r_iload hC dX5_isFair_7 4 rfl ?_
    refine r_aload_n hC dX5_isFair_9 rfl 0 rfl ?_
    refine r_getI hC clX5 56 1 rfl rfl (hC.n rfl) rfl lf_X5_15 dX5_isFair_10 ?_
    refine r_nmI (fun v7 => ?_)
    refine r_icmp_ge hC 53 dX5_isFair_13 (by decide) (fun c8 => ?_) (fun c8 => ?_)
    · exact r_lv [2, 3] rfl (hK6 x1 x2)
    · refine r_aload_n hC dX5_isFair_16 rfl 0 rfl ?_
      refine r_iload hC dX5_isFair_17 4 rfl ?_
      refine r_iload_n hC dX5_isFair_19 rfl 1 rfl ?_
      refine r_callVP hC (b := 56) (ci := 5) (st := []) [.int x3, .int a2] rfl (hC.n rfl) rfl rfl (c_X5_timeOf hC.w σ x3 a2) yk_X5_timeOf lm_X5_29 rfl ⟨rfl, rfl⟩ rfl dX5_isFair_20 (fun v9 => ?_)
      refine r_jn (T := fun (j12 : Int32 → Int32 → Option Int32) => ∀ (x10 : Int32) (x11 : Int32), RF X w (Aw w (xs_ X).heap.size) 5 (fun r => QI X w (r, σ)) (j12 x10 x11) 47 [(0, .ref (wA w 56)), (1, .int a2), (2, .int x10), (3, .int x11), (4, .int x3)] [] σ) ?_ (fun j12 hj12 => ?_)
      · intro x10 x11
        refine r_iinc (v := x3 + 1) (lv' := [(4, .int (x3 + 1)), (0, .ref (wA w 56)), (1, .int a2), (2, .int x10), (3, .int x11)]) hC dX5_isFair_47 4 rfl rfl (by decide) rfl ?_
        refine r_goto hC 7 dX5_isFair_50 (by decide) ?_
        exact r_lv [1, 2, 3, 4, 0] rfl (ih x10 x11 (x3 + 1))
      · refine r_if_eq hC 47 dX5_isFair_23 (by decide) (fun c13 => ?_) (fun c13 => ?_)
        · exact r_lv [0, 1, 2, 3, 4] rfl (hj12 x1 x2)
        · refine r_iinc (v := x1 + 1) (lv' := [(2, .int (x1 + 1)), (0, .ref (wA w 56)), (1, .int a2), (3, .int x2), (4, .int x3)]) hC dX5_isFair_26 2 rfl rfl (by decide) rfl ?_
          refine r_iload_n hC dX5_isFair_29 rfl 3 rfl ?_
          refine r_aload_n hC dX5_isFair_30 rfl 1 rfl ?_
          refine r_iload hC dX5_isFair_31 4 rfl ?_
          refine r_iload_n hC dX5_isFair_33 rfl 2 rfl ?_
          refine r_callVP hC (b := 56) (ci := 5) (st := [.int x2]) [.int x3, .int a2] rfl (hC.n rfl) rfl rfl (c_X5_isFirst hC.w σ x3 a2) yk_X5_isFirst lm_X5_33 rfl ⟨rfl, rfl⟩ rfl dX5_isFair_34 (fun v14 => ?_)
          refine r_jn (T := fun (j16 : Int32 → Option Int32) => ∀ (t15 : Int32), RF X w (Aw w (xs_ X).heap.size) 5 (fun r => QI X w (r, σ)) (j16 t15) 45 [(0, .ref (wA w 56)), (1, .int a2), (2, .int (x1 + 1)), (4, .int x3)] [.int t15, .int x2] σ) ?_ (fun j16 hj16 => ?_)
          · intro t15
            refine r_iadd hC dX5_isFair_45 ?_
            refine r_nmI (fun v17 => ?_)
            refine r_istore_n (lv' := [(3, .int v17), (0, .ref (wA w 56)), (1, .int a2), (2, .int (x1 + 1)), (4, .int x3)]) hC dX5_isFair_46 rfl (by decide) rfl ?_
            exact r_lv [1, 2, 3, 0, 4] rfl (hj12 (x1 + 1) v17)
          · refine r_if_eq hC 44 dX5_isFair_37 (by decide) (fun c18 => ?_) (fun c18 => ?_)
            · refine r_iconst (v := 0) hC dX5_isFair_44 (by decide) ?_
              exact r_lv [1, 2, 0, 4] rfl (hj16 0)
            · refine r_iconst (v := 1) hC dX5_isFair_40 (by decide) ?_
              refine r_goto hC 45 dX5_isFair_41 (by decide) ?_
              exact r_lv [1, 2, 0, 4] rfl (hj16 1)
set_option maxHeartbeats 4000000 in
set_option maxRecDepth 100000 in
theorem c_X5_isFair {l : Launch} {w : Wd} (hW : HWd w shX rX 66) (σ : St) (a2 : Int32)  : ∀ res, f_X5_isFair σ a2 = some res → MtI l yX5_isFair cX5_isFair 5 .boolean 2 45 w [.ref (wA w 56), .int a2] σ (res, σ) := by
  refine mt_P (by decide) rfl hW (fun X hl0 hC hret => ?_)
  show RF X w (Aw w (xs_ X).heap.size) 5 (fun r => QI X w (r, σ)) (f_X5_isFair σ a2) 0 [(0, .ref (wA w 56)), (1, .int a2)] [] σ
  unfold f_X5_isFair
  refine r_iconst (v := 0) hC dX5_isFair_0 (by decide) ?_
  refine r_istore_n (lv' := [(2, .int 0), (0, .ref (wA w 56)), (1, .int a2)]) hC dX5_isFair_1 rfl (by decide) rfl ?_
  refine r_iconst (v := 0) hC dX5_isFair_2 (by decide) ?_
  refine r_istore_n (lv' := [(3, .int 0), (2, .int 0), (0, .ref (wA w 56)), (1, .int a2)]) hC dX5_isFair_3 rfl (by decide) rfl ?_
  refine r_iconst (v := 0) hC dX5_isFair_4 (by decide) ?_
  refine r_istore (lv' := [(4, .int 0), (3, .int 0), (2, .int 0), (0, .ref (wA w 56)), (1, .int a2)]) hC dX5_isFair_5 (by decide) rfl ?_
  refine r_lv [3, 4, 2, 1, 0] rfl ?_
  refine w_X5_isFair_l7 hC hret σ a2 _ ?_ FU 0 0 0
  · intro x4 x5
    refine r_iload_n hC dX5_isFair_53 rfl 0 rfl ?_
    refine r_if_le hC 68 dX5_isFair_54 (by decide) (fun c19 => ?_) (fun c19 => ?_)
    · refine r_iconst (v := 0) hC dX5_isFair_68 (by decide) ?_
      exact r_iretP hC hret rfl dX5_isFair_69
    · refine r_iconst (v := 2) hC dX5_isFair_57 (by decide) ?_
      refine r_iload_n hC dX5_isFair_58 rfl 1 rfl ?_
      refine r_imul hC dX5_isFair_59 ?_
      refine r_iload_n hC dX5_isFair_60 rfl 0 rfl ?_
      refine r_icmp_lt hC 68 dX5_isFair_61 (by decide) (fun c20 => ?_) (fun c20 => ?_)
      · refine r_iconst (v := 0) hC dX5_isFair_68 (by decide) ?_
        exact r_iretP hC hret rfl dX5_isFair_69
      · refine r_iconst (v := 1) hC dX5_isFair_64 (by decide) ?_
        refine r_goto hC 69 dX5_isFair_65 (by decide) ?_
        exact r_iretP hC hret rfl dX5_isFair_69
set_option maxHeartbeats 4000000 in
set_option maxRecDepth 100000 in
theorem c_X6_isOperand {l : Launch} {w : Wd} (hW : HWd w shX rX 66) (σ : St) (a1 : Int32)  : ∀ res, f_X6_isOperand a1 = some res → MtI l yX6_isOperand cX6_isOperand 1 .boolean 0 0 w [.int a1] σ (res, σ) := by
  refine mt_P (by decide) rfl hW (fun X hl0 hC hret => ?_)
  show RF X w (Aw w (xs_ X).heap.size) 1 (fun r => QI X w (r, σ)) (f_X6_isOperand a1) 0 [(0, .int a1)] [] σ
  unfold f_X6_isOperand
  refine r_iload_n hC dX6_isOperand_0 rfl 0 rfl ?_
  refine r_if_lt hC 15 dX6_isOperand_1 (by decide) (fun c1 => ?_) (fun c1 => ?_)
  · refine r_iconst (v := 0) hC dX6_isOperand_15 (by decide) ?_
    exact r_iretP hC hret rfl dX6_isOperand_16
  · refine r_iload_n hC dX6_isOperand_4 rfl 0 rfl ?_
    refine r_sipush (v := 10006) hC dX6_isOperand_5 (by decide) ?_
    refine r_icmp_ge hC 15 dX6_isOperand_8 (by decide) (fun c2 => ?_) (fun c2 => ?_)
    · refine r_iconst (v := 0) hC dX6_isOperand_15 (by decide) ?_
      exact r_iretP hC hret rfl dX6_isOperand_16
    · refine r_iconst (v := 1) hC dX6_isOperand_11 (by decide) ?_
      refine r_goto hC 16 dX6_isOperand_12 (by decide) ?_
      exact r_iretP hC hret rfl dX6_isOperand_16
set_option maxHeartbeats 4000000 in
set_option maxRecDepth 100000 in
theorem c_X6_joined {l : Launch} {w : Wd} (hW : HWd w shX rX 66) (σ : St) (a1 : Int32) (a2 : Int32) (a3 : Int32)  : ∀ res, f_X6_joined a1 a2 a3 = some res → MtI l yX6_joined cX6_joined 4 .int 0 0 w [.int a1, .int a2, .int a3] σ (res, σ) := by
  refine mt_P (by decide) rfl hW (fun X hl0 hC hret => ?_)
  show RF X w (Aw w (xs_ X).heap.size) 4 (fun r => QI X w (r, σ)) (f_X6_joined a1 a2 a3) 0 [(0, .int a1), (1, .int a2), (2, .int a3)] [] σ
  unfold f_X6_joined
  refine r_iload_n hC dX6_joined_0 rfl 0 rfl ?_
  refine r_jn (T := fun (j2 : Int32 → Option Int32) => ∀ (x1 : Int32), RF X w (Aw w (xs_ X).heap.size) 4 (fun r => QI X w (r, σ)) (j2 x1) 131 [(3, .int x1)] [] σ) ?_ (fun j2 hj2 => ?_)
  · intro x1
    refine r_iload_n hC dX6_joined_131 rfl 0 rfl ?_
    refine r_if_eq hC 139 dX6_joined_132 (by decide) (fun c3 => ?_) (fun c3 => ?_)
    · refine r_iconst (v := 0) hC dX6_joined_139 (by decide) ?_
      exact r_iretP hC hret rfl dX6_joined_140
    · refine r_iconst (v := 1) hC dX6_joined_135 (by decide) ?_
      refine r_goto hC 140 dX6_joined_136 (by decide) ?_
      exact r_iretP hC hret rfl dX6_joined_140
  · refine r_look1 (off := 99) hC 100 10009 dX6_joined_1 (by decide) (by decide) (by decide) ?_ (fun c9 => ?_)
    · refine r_iload_n hC dX6_joined_100 rfl 1 rfl ?_
      refine r_jn (T := fun (j5 : Int32 → Option Int32) => ∀ (t4 : Int32), RF X w (Aw w (xs_ X).heap.size) 4 (fun r => QI X w (r, σ)) (j5 t4) 113 [] [.int t4] σ) ?_ (fun j5 hj5 => ?_)
      · intro t4
        refine r_istore_n (lv' := [(3, .int t4)]) hC dX6_joined_113 rfl (by decide) rfl ?_
        refine r_goto hC 131 dX6_joined_114 (by decide) ?_
        exact r_lv [0] rfl (hj2 t4)
      · refine r_jn (T := fun (j6 : Option Int32) => RF X w (Aw w (xs_ X).heap.size) 4 (fun r => QI X w (r, σ)) j6 112 [] [] σ) ?_ (fun j6 hj6 => ?_)
        · refine r_iconst (v := 0) hC dX6_joined_112 (by decide) ?_
          exact r_lv [] rfl (hj5 0)
        · refine r_if_eq hC 112 dX6_joined_101 (by decide) (fun c7 => ?_) (fun c7 => ?_)
          · exact r_lv [] rfl hj6
          · refine r_iload_n hC dX6_joined_104 rfl 2 rfl ?_
            refine r_if_eq hC 112 dX6_joined_105 (by decide) (fun c8 => ?_) (fun c8 => ?_)
            · exact r_lv [] rfl hj6
            · refine r_iconst (v := 1) hC dX6_joined_108 (by decide) ?_
              refine r_goto hC 113 dX6_joined_109 (by decide) ?_
              exact r_lv [] rfl (hj5 1)
    · refine r_look1 (off := 67) hC 68 20042 dX6_joined_1 (by decide) (by decide) (by decide) ?_ (fun c10 => ?_)
      · refine r_iload_n hC dX6_joined_68 rfl 1 rfl ?_
        refine r_iload_n hC dX6_joined_69 rfl 2 rfl ?_
        refine r_imul hC dX6_joined_70 ?_
        exact r_iretP hC hret rfl dX6_joined_71
      · refine r_look1 (off := 59) hC 60 20043 dX6_joined_1 (by decide) (by decide) (by decide) ?_ (fun c11 => ?_)
        · refine r_iload_n hC dX6_joined_60 rfl 1 rfl ?_
          refine r_iload_n hC dX6_joined_61 rfl 2 rfl ?_
          refine r_iadd hC dX6_joined_62 ?_
          exact r_iretP hC hret rfl dX6_joined_63
        · refine r_look1 (off := 63) hC 64 20045 dX6_joined_1 (by decide) (by decide) (by decide) ?_ (fun c12 => ?_)
          · refine r_iload_n hC dX6_joined_64 rfl 1 rfl ?_
            refine r_iload_n hC dX6_joined_65 rfl 2 rfl ?_
            refine r_isub hC dX6_joined_66 ?_
            exact r_iretP hC hret rfl dX6_joined_67
          · refine r_look1 (off := 71) hC 72 20060 dX6_joined_1 (by decide) (by decide) (by decide) ?_ (fun c16 => ?_)
            · refine r_iload_n hC dX6_joined_72 rfl 1 rfl ?_
              refine r_iload_n hC dX6_joined_73 rfl 2 rfl ?_
              refine r_jn (T := fun (j14 : Int32 → Option Int32) => ∀ (t13 : Int32), RF X w (Aw w (xs_ X).heap.size) 4 (fun r => QI X w (r, σ)) (j14 t13) 82 [] [.int t13] σ) ?_ (fun j14 hj14 => ?_)
              · intro t13
                refine r_istore_n (lv' := [(3, .int t13)]) hC dX6_joined_82 rfl (by decide) rfl ?_
                refine r_goto hC 131 dX6_joined_83 (by decide) ?_
                exact r_lv [0] rfl (hj2 t13)
              · refine r_icmp_ge hC 81 dX6_joined_74 (by decide) (fun c15 => ?_) (fun c15 => ?_)
                · refine r_iconst (v := 0) hC dX6_joined_81 (by decide) ?_
                  exact r_lv [] rfl (hj14 0)
                · refine r_iconst (v := 1) hC dX6_joined_77 (by decide) ?_
                  refine r_goto hC 82 dX6_joined_78 (by decide) ?_
                  exact r_lv [] rfl (hj14 1)
            · refine r_look1 (off := 85) hC 86 20061 dX6_joined_1 (by decide) (by decide) (by decide) ?_ (fun c20 => ?_)
              · refine r_iload_n hC dX6_joined_86 rfl 1 rfl ?_
                refine r_iload_n hC dX6_joined_87 rfl 2 rfl ?_
                refine r_jn (T := fun (j18 : Int32 → Option Int32) => ∀ (t17 : Int32), RF X w (Aw w (xs_ X).heap.size) 4 (fun r => QI X w (r, σ)) (j18 t17) 96 [] [.int t17] σ) ?_ (fun j18 hj18 => ?_)
                · intro t17
                  refine r_istore_n (lv' := [(3, .int t17)]) hC dX6_joined_96 rfl (by decide) rfl ?_
                  refine r_goto hC 131 dX6_joined_97 (by decide) ?_
                  exact r_lv [0] rfl (hj2 t17)
                · refine r_icmp_ne hC 95 dX6_joined_88 (by decide) (fun c19 => ?_) (fun c19 => ?_)
                  · refine r_iconst (v := 0) hC dX6_joined_95 (by decide) ?_
                    exact r_lv [] rfl (hj18 0)
                  · refine r_iconst (v := 1) hC dX6_joined_91 (by decide) ?_
                    refine r_goto hC 96 dX6_joined_92 (by decide) ?_
                    exact r_lv [] rfl (hj18 1)
              · refine r_lookD hC 117 dX6_joined_1 (by decide) ((lv_osw c9 (by decide)).trans ((lv_osw c10 (by decide)).trans ((lv_osw c11 (by decide)).trans ((lv_osw c12 (by decide)).trans ((lv_osw c16 (by decide)).trans ((lv_osw c20 (by decide)).trans rfl)))))) (by decide) ?_
                refine r_iload_n hC dX6_joined_117 rfl 1 rfl ?_
                refine r_jn (T := fun (j22 : Int32 → Option Int32) => ∀ (t21 : Int32), RF X w (Aw w (xs_ X).heap.size) 4 (fun r => QI X w (r, σ)) (j22 t21) 130 [] [.int t21] σ) ?_ (fun j22 hj22 => ?_)
                · intro t21
                  refine r_istore_n (lv' := [(3, .int t21)]) hC dX6_joined_130 rfl (by decide) rfl ?_
                  exact r_lv [0] rfl (hj2 t21)
                · refine r_jn (T := fun (j23 : Option Int32) => RF X w (Aw w (xs_ X).heap.size) 4 (fun r => QI X w (r, σ)) j23 125 [] [] σ) ?_ (fun j23 hj23 => ?_)
                  · refine r_iconst (v := 1) hC dX6_joined_125 (by decide) ?_
                    refine r_goto hC 130 dX6_joined_126 (by decide) ?_
                    exact r_lv [] rfl (hj22 1)
                  · refine r_if_ne hC 125 dX6_joined_118 (by decide) (fun c24 => ?_) (fun c24 => ?_)
                    · exact r_lv [] rfl hj23
                    · refine r_iload_n hC dX6_joined_121 rfl 2 rfl ?_
                      refine r_if_eq hC 129 dX6_joined_122 (by decide) (fun c25 => ?_) (fun c25 => ?_)
                      · refine r_iconst (v := 0) hC dX6_joined_129 (by decide) ?_
                        exact r_lv [] rfl (hj22 0)
                      · exact r_lv [] rfl hj23
set_option maxHeartbeats 4000000 in
set_option maxRecDepth 100000 in
theorem w_X6_valueOf_l42 {X : Mc} {w : Wd} (hC : Cok X w (Aw w (xs_ X).heap.size) yX6_valueOf.cls cX6_valueOf 10 1 23 shX rX 66) (hret : (xmeth X).sig.returnType = some .int) (cr : Nat) (t3 : Int32) (σ : St) (hcr : shX cr = (0, 6)) (bcr : cr + 1 < wN w)    : ∀ (n : Nat) (x5 : Int32) (x6 : Int32) (x7 : Int32) (σ8 : St), RF X w (Aw w (xs_ X).heap.size) 10 (QI X w) (f_X6_valueOf_l42 cr t3 n x5 x6 x7 σ8) 42 [(0, .ref (wA w cr)), (2, .ref (wA w 34)), (3, .ref (wA w 35)), (5, .int t3), (6, .int x5), (7, .int x6), (8, .int x7)] [] σ8 := by
  intro n
  induction n with
  | zero => intro x5 x6 x7 σ8; rw [f_X6_valueOf_l42]; exact r_none
  | succ n ih =>
    intro x5 x6 x7 σ8
    rw [f_X6_valueOf_l42]
    refine r_iload hC dX6_valueOf_42 6 rfl ?_
    refine r_iload hC dX6_valueOf_44 3 rfl ?_
    refine r_icmp_ge hC 174 dX6_valueOf_46 (by decide) (fun c9 => ?_) (fun c9 => ?_)
    · refine r_iload hC dX6_valueOf_174 4 rfl ?_
      exact r_iret hC hret rfl dX6_valueOf_176
    · refine r_aload_n hC dX6_valueOf_49 rfl 0 rfl ?_
      refine r_getR hC clX6 cr 0 (cr + 1) (rX_rule hcr).1 rfl hcr (Nat.lt_of_succ_lt bcr) rfl lf_X6_9 dX6_valueOf_50 ?_
      refine r_iload hC dX6_valueOf_53 6 rfl ?_
      refine r_gd (fun g10 => ?_)
      refine r_ialdV hC (cr + 1) (rX_rule hcr).2 bcr g10 dX6_valueOf_55 ?_
      refine r_nmI (fun v11 => ?_)
      refine r_istore (lv' := [(9, .int v11), (0, .ref (wA w cr)), (2, .ref (wA w 34)), (3, .ref (wA w 35)), (5, .int t3), (6, .int x5), (7, .int x6), (8, .int x7)]) hC dX6_valueOf_56 (by decide) rfl ?_
      refine r_iload hC dX6_valueOf_58 0 rfl ?_
      refine r_callSP hC (st := []) [.int v11] (c_X6_isOperand hC.w σ8 v11) yk_X6_isOperand lm_X6_17 rfl ⟨rfl, rfl⟩ rfl dX6_valueOf_60 (fun v12 => ?_)
      refine r_jn (T := fun (j16 : Int32 → Int32 → St → Option (Int32 × St)) => ∀ (x13 : Int32) (x14 : Int32) (σ15 : St), RF X w (Aw w (xs_ X).heap.size) 10 (QI X w) (j16 x13 x14 σ15) 168 [(0, .ref (wA w cr)), (2, .ref (wA w 34)), (3, .ref (wA w 35)), (5, .int t3), (6, .int x13), (7, .int x14), (8, .int x7)] [] σ15) ?_ (fun j16 hj16 => ?_)
      · intro x13 x14 σ15
        refine r_iinc (v := x7 + 1) (lv' := [(8, .int (x7 + 1)), (0, .ref (wA w cr)), (2, .ref (wA w 34)), (3, .ref (wA w 35)), (5, .int t3), (6, .int x13), (7, .int x14)]) hC dX6_valueOf_168 6 rfl rfl (by decide) rfl ?_
        refine r_goto hC 42 dX6_valueOf_171 (by decide) ?_
        exact r_lv [1, 2, 3, 4, 5, 6, 0] rfl (ih x13 x14 (x7 + 1) σ15)
      · refine r_if_eq hC 108 dX6_valueOf_63 (by decide) (fun c17 => ?_) (fun c17 => ?_)
        · refine r_iload hC dX6_valueOf_108 0 rfl ?_
          refine r_sipush (v := 30000) hC dX6_valueOf_110 (by decide) ?_
          refine r_icmp_ne hC 124 dX6_valueOf_113 (by decide) (fun c18 => ?_) (fun c18 => ?_)
          · refine r_iload hC dX6_valueOf_124 0 rfl ?_
            refine r_sipush (v := 10010) hC dX6_valueOf_126 (by decide) ?_
            refine r_icmp_ne hC 147 dX6_valueOf_129 (by decide) (fun c19 => ?_) (fun c19 => ?_)
            · refine r_iload hC dX6_valueOf_147 6 rfl ?_
              refine r_if_le hC 168 dX6_valueOf_149 (by decide) (fun c20 => ?_) (fun c20 => ?_)
              · exact r_lv [1, 2, 3, 4, 5, 6, 7] rfl (hj16 x5 x6 σ8)
              · refine r_iinc (v := x6 + (-1)) (lv' := [(7, .int (x6 + (-1))), (9, .int v11), (0, .ref (wA w cr)), (2, .ref (wA w 34)), (3, .ref (wA w 35)), (5, .int t3), (6, .int x5), (8, .int x7)]) hC dX6_valueOf_152 6 rfl rfl (by decide) rfl ?_
                refine r_iload hC dX6_valueOf_155 1 rfl ?_
                refine r_aload_n hC dX6_valueOf_157 rfl 4 rfl ?_
                refine r_iload hC dX6_valueOf_158 0 rfl ?_
                refine r_nmI (fun v21 => ?_)
                refine r_gd (fun g22 => ?_)
                refine r_iald hC 35 160 rfl rfl g22 dX6_valueOf_160 ?_
                refine r_nmI (fun v23 => ?_)
                refine r_iload hC dX6_valueOf_161 6 rfl ?_
                refine r_callSP hC (st := []) [.int v11, .int v23, .int x5] (c_X6_joined hC.w σ8 v11 v23 x5) yk_X6_joined lm_X6_21 rfl ⟨rfl, rfl⟩ rfl dX6_valueOf_163 (fun v24 => ?_)
                refine r_istore (lv' := [(6, .int v24), (7, .int (x6 + (-1))), (9, .int v11), (0, .ref (wA w cr)), (2, .ref (wA w 34)), (3, .ref (wA w 35)), (5, .int t3), (8, .int x7)]) hC dX6_valueOf_166 (by decide) rfl ?_
                exact r_lv [3, 4, 5, 6, 0, 1, 7] rfl (hj16 v24 (x6 + (-1)) σ8)
            · refine r_iload hC dX6_valueOf_132 5 rfl ?_
              refine r_jn (T := fun (j26 : Int32 → Option (Int32 × St)) => ∀ (t25 : Int32), RF X w (Aw w (xs_ X).heap.size) 10 (QI X w) (j26 t25) 142 [(0, .ref (wA w cr)), (2, .ref (wA w 34)), (3, .ref (wA w 35)), (5, .int t3), (7, .int x6), (8, .int x7)] [.int t25] σ8) ?_ (fun j26 hj26 => ?_)
              · intro t25
                refine r_istore (lv' := [(6, .int t25), (0, .ref (wA w cr)), (2, .ref (wA w 34)), (3, .ref (wA w 35)), (5, .int t3), (7, .int x6), (8, .int x7)]) hC dX6_valueOf_142 (by decide) rfl ?_
                refine r_goto hC 168 dX6_valueOf_144 (by decide) ?_
                exact r_lv [1, 2, 3, 4, 0, 5, 6] rfl (hj16 t25 x6 σ8)
              · refine r_if_ne hC 141 dX6_valueOf_134 (by decide) (fun c27 => ?_) (fun c27 => ?_)
                · refine r_iconst (v := 0) hC dX6_valueOf_141 (by decide) ?_
                  exact r_lv [1, 2, 3, 4, 6, 7] rfl (hj26 0)
                · refine r_iconst (v := 1) hC dX6_valueOf_137 (by decide) ?_
                  refine r_goto hC 142 dX6_valueOf_138 (by decide) ?_
                  exact r_lv [1, 2, 3, 4, 6, 7] rfl (hj26 1)
          · refine r_iload hC dX6_valueOf_116 5 rfl ?_
            refine r_ineg hC dX6_valueOf_118 ?_
            refine r_istore (lv' := [(6, .int (-x5)), (9, .int v11), (0, .ref (wA w cr)), (2, .ref (wA w 34)), (3, .ref (wA w 35)), (5, .int t3), (7, .int x6), (8, .int x7)]) hC dX6_valueOf_119 (by decide) rfl ?_
            refine r_goto hC 168 dX6_valueOf_121 (by decide) ?_
            exact r_lv [2, 3, 4, 5, 0, 6, 7] rfl (hj16 (-x5) x6 σ8)
        · refine r_iload hC dX6_valueOf_66 6 rfl ?_
          refine r_aload_n hC dX6_valueOf_68 rfl 3 rfl ?_
          refine r_alen1 (v := 160) hC 35 160 rfl rfl (by decide) dX6_valueOf_69 ?_
          refine r_jn (T := fun (j30 : Int32 → St → Option (Int32 × St)) => ∀ (x28 : Int32) (σ29 : St), RF X w (Aw w (xs_ X).heap.size) 10 (QI X w) (j30 x28 σ29) 82 [(0, .ref (wA w cr)), (2, .ref (wA w 34)), (3, .ref (wA w 35)), (5, .int t3), (7, .int x28), (8, .int x7), (9, .int v11)] [] σ29) ?_ (fun j30 hj30 => ?_)
          · intro x28 σ29
            refine r_iload hC dX6_valueOf_82 6 rfl ?_
            refine r_sipush (v := 10000) hC dX6_valueOf_84 (by decide) ?_
            refine r_jn (T := fun (j32 : Int32 → Option (Int32 × St)) => ∀ (t31 : Int32), RF X w (Aw w (xs_ X).heap.size) 10 (QI X w) (j32 t31) 103 [(0, .ref (wA w cr)), (2, .ref (wA w 34)), (3, .ref (wA w 35)), (5, .int t3), (7, .int x28), (8, .int x7)] [.int t31] σ29) ?_ (fun j32 hj32 => ?_)
            · intro t31
              refine r_istore (lv' := [(6, .int t31), (0, .ref (wA w cr)), (2, .ref (wA w 34)), (3, .ref (wA w 35)), (5, .int t3), (7, .int x28), (8, .int x7)]) hC dX6_valueOf_103 (by decide) rfl ?_
              refine r_goto hC 168 dX6_valueOf_105 (by decide) ?_
              exact r_lv [1, 2, 3, 4, 0, 5, 6] rfl (hj16 t31 x28 σ29)
            · refine r_icmp_ge hC 95 dX6_valueOf_87 (by decide) (fun c33 => ?_) (fun c33 => ?_)
              · refine r_aload_n hC dX6_valueOf_95 rfl 1 rfl ?_
                refine r_iload hC dX6_valueOf_96 6 rfl ?_
                refine r_sipush (v := 10000) hC dX6_valueOf_98 (by decide) ?_
                refine r_isub hC dX6_valueOf_101 ?_
                refine r_nmI (fun v34 => ?_)
                refine r_gd (fun g35 => ?_)
                refine r_iald hC 34 6 rfl rfl g35 dX6_valueOf_102 ?_
                refine r_nmI (fun v36 => ?_)
                exact r_lv [0, 1, 2, 3, 4, 5] rfl (hj32 v36)
              · refine r_iload hC dX6_valueOf_90 6 rfl ?_
                refine r_goto hC 103 dX6_valueOf_92 (by decide) ?_
                exact r_lv [0, 1, 2, 3, 4, 5] rfl (hj32 v11)
          · refine r_icmp_ge hC 82 dX6_valueOf_70 (by decide) (fun c37 => ?_) (fun c37 => ?_)
            · exact r_lv [1, 2, 3, 4, 6, 7, 0] rfl (hj30 x6 σ8)
            · refine r_aload_n hC dX6_valueOf_73 rfl 3 rfl ?_
              refine r_iload hC dX6_valueOf_74 6 rfl ?_
              refine r_iload hC dX6_valueOf_76 5 rfl ?_
              refine r_gd (fun g38 => ?_)
              refine r_iast hC 35 160 rfl rfl g38 dX6_valueOf_78 ?_
              refine r_nmS (fun σ39 => ?_)
              refine r_iinc (v := x6 + 1) (lv' := [(7, .int (x6 + 1)), (9, .int v11), (0, .ref (wA w cr)), (2, .ref (wA w 34)), (3, .ref (wA w 35)), (5, .int t3), (6, .int x5), (8, .int x7)]) hC dX6_valueOf_79 6 rfl rfl (by decide) rfl ?_
              exact r_lv [2, 3, 4, 5, 0, 7, 1] rfl (hj30 (x6 + 1) σ39)
set_option maxHeartbeats 4000000 in
set_option maxRecDepth 100000 in
theorem c_X6_valueOf {l : Launch} {w : Wd} (hW : HWd w shX rX 66) (σ : St) (cr : Nat) (a2 : Int32) (hcr : shX cr = (0, 6)) (bcr : cr + 1 < wN w) : ∀ res, f_X6_valueOf σ cr a2 = some res → MtI l yX6_valueOf cX6_valueOf 10 .int 1 23 w [.ref (wA w cr), .int a2, .ref (wA w 34), .ref (wA w 35)] σ res := by
  refine mt_I (by decide) rfl hW (fun X hl0 hC hret => ?_)
  show RF X w (Aw w (xs_ X).heap.size) 10 (QI X w) (f_X6_valueOf σ cr a2) 0 [(0, .ref (wA w cr)), (1, .int a2), (2, .ref (wA w 34)), (3, .ref (wA w 35))] [] σ
  unfold f_X6_valueOf
  refine r_iload_n hC dX6_valueOf_0 rfl 1 rfl ?_
  refine r_jn (T := fun (j2 : Int32 → Option (Int32 × St)) => ∀ (t1 : Int32), RF X w (Aw w (xs_ X).heap.size) 10 (QI X w) (j2 t1) 12 [(0, .ref (wA w cr)), (1, .int a2), (2, .ref (wA w 34)), (3, .ref (wA w 35))] [.int t1] σ) ?_ (fun j2 hj2 => ?_)
  · intro t1
    refine r_istore (lv' := [(4, .int t1), (0, .ref (wA w cr)), (1, .int a2), (2, .ref (wA w 34)), (3, .ref (wA w 35))]) hC dX6_valueOf_12 (by decide) rfl ?_
    refine r_iload_n hC dX6_valueOf_14 rfl 2 rfl ?_
    refine r_jn (T := fun (j4 : Int32 → Option (Int32 × St)) => ∀ (t3 : Int32), RF X w (Aw w (xs_ X).heap.size) 10 (QI X w) (j4 t3) 30 [(0, .ref (wA w cr)), (2, .ref (wA w 34)), (3, .ref (wA w 35)), (4, .int t1)] [.int t3] σ) ?_ (fun j4 hj4 => ?_)
    · intro t3
      refine r_istore (lv' := [(5, .int t3), (0, .ref (wA w cr)), (2, .ref (wA w 34)), (3, .ref (wA w 35)), (4, .int t1)]) hC dX6_valueOf_30 (by decide) rfl ?_
      refine r_iconst (v := 0) hC dX6_valueOf_32 (by decide) ?_
      refine r_istore (lv' := [(6, .int 0), (5, .int t3), (0, .ref (wA w cr)), (2, .ref (wA w 34)), (3, .ref (wA w 35)), (4, .int t1)]) hC dX6_valueOf_33 (by decide) rfl ?_
      refine r_iconst (v := 0) hC dX6_valueOf_35 (by decide) ?_
      refine r_istore (lv' := [(7, .int 0), (6, .int 0), (5, .int t3), (0, .ref (wA w cr)), (2, .ref (wA w 34)), (3, .ref (wA w 35)), (4, .int t1)]) hC dX6_valueOf_36 (by decide) rfl ?_
      refine r_iload hC dX6_valueOf_38 6 rfl ?_
      refine r_istore (lv' := [(8, .int t1), (7, .int 0), (6, .int 0), (5, .int t3), (0, .ref (wA w cr)), (2, .ref (wA w 34)), (3, .ref (wA w 35)), (4, .int t1)]) hC dX6_valueOf_40 (by decide) rfl ?_
      refine r_lv [4, 5, 6, 3, 2, 1, 0] rfl ?_
      exact w_X6_valueOf_l42 hC hret cr t3 σ hcr bcr FU 0 0 t1 σ
    · refine r_if_eq hC 25 dX6_valueOf_15 (by decide) (fun c40 => ?_) (fun c40 => ?_)
      · refine r_aload_n hC dX6_valueOf_25 rfl 1 rfl ?_
        refine r_getR hC clX6 cr 0 (cr + 1) (rX_rule hcr).1 rfl hcr (Nat.lt_of_succ_lt bcr) rfl lf_X6_9 dX6_valueOf_26 ?_
        refine r_alenV hC (cr + 1) (rX_rule hcr).2 bcr dX6_valueOf_29 ?_
        refine r_nmI (fun v41 => ?_)
        exact r_lv [1, 3, 4, 0] rfl (hj4 v41)
      · refine r_aload_n hC dX6_valueOf_18 rfl 1 rfl ?_
        refine r_getI hC clX6 cr 1 rfl hcr (Nat.lt_of_succ_lt bcr) rfl lf_X6_13 dX6_valueOf_19 ?_
        refine r_nmI (fun v42 => ?_)
        refine r_goto hC 30 dX6_valueOf_22 (by decide) ?_
        exact r_lv [1, 3, 4, 0] rfl (hj4 v42)
  · refine r_if_eq hC 8 dX6_valueOf_1 (by decide) (fun c43 => ?_) (fun c43 => ?_)
    · refine r_aload_n hC dX6_valueOf_8 rfl 0 rfl ?_
      refine r_getI hC clX6 cr 1 rfl hcr (Nat.lt_of_succ_lt bcr) rfl lf_X6_13 dX6_valueOf_9 ?_
      refine r_nmI (fun v44 => ?_)
      exact r_lv [0, 1, 2, 3] rfl (hj2 v44)
    · refine r_iconst (v := 0) hC dX6_valueOf_4 (by decide) ?_
      refine r_goto hC 12 dX6_valueOf_5 (by decide) ?_
      exact r_lv [0, 1, 2, 3] rfl (hj2 0)
set_option maxHeartbeats 4000000 in
set_option maxRecDepth 100000 in
theorem c_X7_has {l : Launch} {w : Wd} (hW : HWd w shX rX 66) (σ : St) (a2 : Int32)  : ∀ res, f_X7_has a2 = some res → MtI l yX7_has cX7_has 2 .boolean 0 0 w [.ref (wA w 58), .int a2] σ (res, σ) := by
  refine mt_P (by decide) rfl hW (fun X hl0 hC hret => ?_)
  show RF X w (Aw w (xs_ X).heap.size) 2 (fun r => QI X w (r, σ)) (f_X7_has a2) 0 [(0, .ref (wA w 58)), (1, .int a2)] [] σ
  unfold f_X7_has
  refine r_iload_n hC dX7_has_0 rfl 1 rfl ?_
  refine r_if_lt hC 13 dX7_has_1 (by decide) (fun c1 => ?_) (fun c1 => ?_)
  · refine r_iconst (v := 0) hC dX7_has_13 (by decide) ?_
    exact r_iretP hC hret rfl dX7_has_14
  · refine r_iload_n hC dX7_has_4 rfl 1 rfl ?_
    refine r_iconst (v := 4) hC dX7_has_5 (by decide) ?_
    refine r_icmp_ge hC 13 dX7_has_6 (by decide) (fun c2 => ?_) (fun c2 => ?_)
    · refine r_iconst (v := 0) hC dX7_has_13 (by decide) ?_
      exact r_iretP hC hret rfl dX7_has_14
    · refine r_iconst (v := 1) hC dX7_has_9 (by decide) ?_
      refine r_goto hC 14 dX7_has_10 (by decide) ?_
      exact r_iretP hC hret rfl dX7_has_14
set_option maxHeartbeats 4000000 in
set_option maxRecDepth 100000 in
theorem c_X7_isMissing {l : Launch} {w : Wd} (hW : HWd w shX rX 66) (σ : St) (a2 : Int32)  : ∀ res, f_X7_isMissing σ a2 = some res → MtI l yX7_isMissing cX7_isMissing 2 .boolean 0 0 w [.ref (wA w 58), .int a2] σ (res, σ) := by
  refine mt_P (by decide) rfl hW (fun X hl0 hC hret => ?_)
  show RF X w (Aw w (xs_ X).heap.size) 2 (fun r => QI X w (r, σ)) (f_X7_isMissing σ a2) 0 [(0, .ref (wA w 58)), (1, .int a2)] [] σ
  unfold f_X7_isMissing
  refine r_aload_n hC dX7_isMissing_0 rfl 0 rfl ?_
  refine r_getR hC clX7 58 0 59 rfl rfl rfl (hC.n rfl) rfl lf_X7_9 dX7_isMissing_1 ?_
  refine r_iload_n hC dX7_isMissing_4 rfl 1 rfl ?_
  refine r_gd (fun g1 => ?_)
  refine r_iald hC 59 4 rfl rfl g1 dX7_isMissing_5 ?_
  refine r_nmI (fun v2 => ?_)
  refine r_iconst (v := (-1)) hC dX7_isMissing_6 (by decide) ?_
  refine r_icmp_ne hC 14 dX7_isMissing_7 (by decide) (fun c3 => ?_) (fun c3 => ?_)
  · refine r_iconst (v := 0) hC dX7_isMissing_14 (by decide) ?_
    exact r_iretP hC hret rfl dX7_isMissing_15
  · refine r_iconst (v := 1) hC dX7_isMissing_10 (by decide) ?_
    refine r_goto hC 15 dX7_isMissing_11 (by decide) ?_
    exact r_iretP hC hret rfl dX7_isMissing_15
set_option maxHeartbeats 4000000 in
set_option maxRecDepth 100000 in
theorem c_X7_isSort {l : Launch} {w : Wd} (hW : HWd w shX rX 66) (σ : St) (a1 : Int32)  : ∀ res, f_X7_isSort a1 = some res → MtI l yX7_isSort cX7_isSort 1 .boolean 0 0 w [.int a1] σ (res, σ) := by
  refine mt_P (by decide) rfl hW (fun X hl0 hC hret => ?_)
  show RF X w (Aw w (xs_ X).heap.size) 1 (fun r => QI X w (r, σ)) (f_X7_isSort a1) 0 [(0, .int a1)] [] σ
  unfold f_X7_isSort
  refine r_iload_n hC dX7_isSort_0 rfl 0 rfl ?_
  refine r_if_lt hC 13 dX7_isSort_1 (by decide) (fun c1 => ?_) (fun c1 => ?_)
  · refine r_iconst (v := 0) hC dX7_isSort_13 (by decide) ?_
    exact r_iretP hC hret rfl dX7_isSort_14
  · refine r_iload_n hC dX7_isSort_4 rfl 0 rfl ?_
    refine r_iconst (v := 2) hC dX7_isSort_5 (by decide) ?_
    refine r_icmp_gt hC 13 dX7_isSort_6 (by decide) (fun c2 => ?_) (fun c2 => ?_)
    · refine r_iconst (v := 0) hC dX7_isSort_13 (by decide) ?_
      exact r_iretP hC hret rfl dX7_isSort_14
    · refine r_iconst (v := 1) hC dX7_isSort_9 (by decide) ?_
      refine r_goto hC 14 dX7_isSort_10 (by decide) ?_
      exact r_iretP hC hret rfl dX7_isSort_14
set_option maxHeartbeats 4000000 in
set_option maxRecDepth 100000 in
theorem w_J7_fill_53178_l5 {X : Mc} {w : Wd} (hC : Cok X w (Aw w (xs_ X).heap.size) yJ7_fill_53178.cls cJ7_fill_53178 4 0 0 shX rX 66) (hret : (xmeth X).sig.returnType = none) (kk : Nat) (n_kk : Nat) (a2 : Int32) (v1 : Int32) (σ : St) (hkk : shX kk = (1, n_kk)) (bkk : Nat.blt kk 66 = true)    : ∀ (n : Nat) (x2 : Int32) (σ3 : St), RF X w (Aw w (xs_ X).heap.size) 4 (QV X w) (f_J7_fill_53178_l5 kk n_kk a2 v1 n x2 σ3) 5 [(0, .ref (wA w kk)), (1, .int a2), (2, .int x2), (3, .int v1)] [] σ3 := by
  intro n
  induction n with
  | zero => intro x2 σ3; rw [f_J7_fill_53178_l5]; exact r_none
  | succ n ih =>
    intro x2 σ3
    rw [f_J7_fill_53178_l5]
    refine r_iload_n hC dJ7_fill_53178_5 rfl 2 rfl ?_
    refine r_iload_n hC dJ7_fill_53178_6 rfl 3 rfl ?_
    refine r_icmp_ge hC 20 dJ7_fill_53178_7 (by decide) (fun c4 => ?_) (fun c4 => ?_)
    · exact r_vret hC hret dJ7_fill_53178_20
    · refine r_aload_n hC dJ7_fill_53178_10 rfl 0 rfl ?_
      refine r_iload_n hC dJ7_fill_53178_11 rfl 2 rfl ?_
      refine r_iload_n hC dJ7_fill_53178_12 rfl 1 rfl ?_
      refine r_gd (fun g5 => ?_)
      refine r_iast hC kk n_kk hkk bkk g5 dJ7_fill_53178_13 ?_
      refine r_nmS (fun σ6 => ?_)
      refine r_iinc (v := x2 + 1) (lv' := [(2, .int (x2 + 1)), (0, .ref (wA w kk)), (1, .int a2), (3, .int v1)]) hC dJ7_fill_53178_14 2 rfl rfl (by decide) rfl ?_
      refine r_goto hC 5 dJ7_fill_53178_17 (by decide) ?_
      exact r_lv [1, 2, 0, 3] rfl (ih (x2 + 1) σ6)
set_option maxHeartbeats 4000000 in
set_option maxRecDepth 100000 in
theorem c_J7_fill_53178 {l : Launch} {w : Wd} (hW : HWd w shX rX 66) (σ : St) (kk : Nat) (n_kk : Nat) (a2 : Int32) (hkk : shX kk = (1, n_kk)) (bkk : Nat.blt kk 66 = true) : ∀ res, f_J7_fill_53178 σ kk n_kk a2 = some res → MtV l yJ7_fill_53178 cJ7_fill_53178 4 0 0 w [.ref (wA w kk), .int a2] σ res := by
  refine mt_V (by decide) rfl hW (fun X hl0 hC hret => ?_)
  show RF X w (Aw w (xs_ X).heap.size) 4 (QV X w) (f_J7_fill_53178 σ kk n_kk a2) 0 [(0, .ref (wA w kk)), (1, .int a2)] [] σ
  unfold f_J7_fill_53178
  refine r_iconst (v := 0) hC dJ7_fill_53178_0 (by decide) ?_
  refine r_istore_n (lv' := [(2, .int 0), (0, .ref (wA w kk)), (1, .int a2)]) hC dJ7_fill_53178_1 rfl (by decide) rfl ?_
  refine r_aload_n hC dJ7_fill_53178_2 rfl 1 rfl ?_
  refine r_alen1 (v := Int32.ofNat n_kk) hC kk n_kk hkk bkk rfl dJ7_fill_53178_3 ?_
  refine r_nmI (fun v1 => ?_)
  refine r_istore_n (lv' := [(3, .int v1), (2, .int 0), (0, .ref (wA w kk)), (1, .int a2)]) hC dJ7_fill_53178_4 rfl (by decide) rfl ?_
  refine r_lv [2, 3, 1, 0] rfl ?_
  exact w_J7_fill_53178_l5 hC hret kk n_kk a2 v1 σ hkk bkk FU 0 σ
set_option maxHeartbeats 4000000 in
set_option maxRecDepth 100000 in
theorem c_X7_renew {l : Launch} {w : Wd} (hW : HWd w shX rX 66) (σ : St) (a2 : Int32) (a3 : Int32) (a4 : Int32)  : ∀ res, f_X7_renew σ a2 a3 a4 = some res → MtV l yX7_renew cX7_renew 4 1 23 w [.ref (wA w 58), .int a2, .int a3, .int a4] σ res := by
  refine mt_V (by decide) rfl hW (fun X hl0 hC hret => ?_)
  show RF X w (Aw w (xs_ X).heap.size) 4 (QV X w) (f_X7_renew σ a2 a3 a4) 0 [(0, .ref (wA w 58)), (1, .int a2), (2, .int a3), (3, .int a4)] [] σ
  unfold f_X7_renew
  refine r_aload_n hC dX7_renew_0 rfl 0 rfl ?_
  refine r_getR hC clX7 58 0 59 rfl rfl rfl (hC.n rfl) rfl lf_X7_9 dX7_renew_1 ?_
  refine r_iload_n hC dX7_renew_4 rfl 1 rfl ?_
  refine r_iload_n hC dX7_renew_5 rfl 2 rfl ?_
  refine r_gd (fun g1 => ?_)
  refine r_iast hC 59 4 rfl rfl g1 dX7_renew_6 ?_
  refine r_nmS (fun σ2 => ?_)
  refine r_aload_n hC dX7_renew_7 rfl 0 rfl ?_
  refine r_getR hC clX7 58 1 60 rfl rfl rfl (hC.n rfl) rfl lf_X7_13 dX7_renew_8 ?_
  refine r_iload_n hC dX7_renew_11 rfl 1 rfl ?_
  refine r_iload_n hC dX7_renew_12 rfl 3 rfl ?_
  refine r_gd (fun g3 => ?_)
  refine r_iast hC 60 4 rfl rfl g3 dX7_renew_13 ?_
  refine r_nmS (fun σ4 => ?_)
  refine r_aload_n hC dX7_renew_14 rfl 0 rfl ?_
  refine r_getR hC clX7 58 2 61 rfl rfl rfl (hC.n rfl) rfl lf_X7_18 dX7_renew_15 ?_
  refine r_iload_n hC dX7_renew_18 rfl 1 rfl ?_
  refine r_gd (fun g5 => ?_)
  have e6 := aaI g5
  refine r_aald hC 61 4 (62 + Int32.toNatClampNeg a2) rfl rfl g5 e6.1 dX7_renew_19 ?_
  refine r_iconst (v := 0) hC dX7_renew_20 (by decide) ?_
  refine r_callSV hC (st := []) [.ref (wA w (62 + Int32.toNatClampNeg a2)), .int 0] (c_J7_fill_53178 hC.w σ4 (62 + Int32.toNatClampNeg a2) 40 0 e6.2.1 e6.2.2) yk_J7_fill_53178 lm_X7_21 rfl ⟨rfl, rfl⟩ rfl dX7_renew_21 (fun σ7 => ?_)
  exact r_vret hC hret dX7_renew_24
set_option maxHeartbeats 4000000 in
set_option maxRecDepth 100000 in
theorem c_X7_holds {l : Launch} {w : Wd} (hW : HWd w shX rX 66) (σ : St) (a2 : Int32) (a3 : Int32) (a4 : Int32)  : ∀ res, f_X7_holds σ a2 a3 a4 = some res → MtI l yX7_holds cX7_holds 4 .boolean 0 0 w [.ref (wA w 58), .int a2, .int a3, .int a4] σ (res, σ) := by
  refine mt_P (by decide) rfl hW (fun X hl0 hC hret => ?_)
  show RF X w (Aw w (xs_ X).heap.size) 4 (fun r => QI X w (r, σ)) (f_X7_holds σ a2 a3 a4) 0 [(0, .ref (wA w 58)), (1, .int a2), (2, .int a3), (3, .int a4)] [] σ
  unfold f_X7_holds
  refine r_iload_n hC dX7_holds_0 rfl 2 rfl ?_
  refine r_if_lt hC 34 dX7_holds_1 (by decide) (fun c1 => ?_) (fun c1 => ?_)
  · refine r_iconst (v := 0) hC dX7_holds_34 (by decide) ?_
    exact r_iretP hC hret rfl dX7_holds_35
  · refine r_iload_n hC dX7_holds_4 rfl 3 rfl ?_
    refine r_if_lt hC 34 dX7_holds_5 (by decide) (fun c2 => ?_) (fun c2 => ?_)
    · refine r_iconst (v := 0) hC dX7_holds_34 (by decide) ?_
      exact r_iretP hC hret rfl dX7_holds_35
    · refine r_iload_n hC dX7_holds_8 rfl 3 rfl ?_
      refine r_aload_n hC dX7_holds_9 rfl 0 rfl ?_
      refine r_getR hC clX7 58 1 60 rfl rfl rfl (hC.n rfl) rfl lf_X7_13 dX7_holds_10 ?_
      refine r_iload_n hC dX7_holds_13 rfl 1 rfl ?_
      refine r_gd (fun g3 => ?_)
      refine r_iald hC 60 4 rfl rfl g3 dX7_holds_14 ?_
      refine r_nmI (fun v4 => ?_)
      refine r_icmp_gt hC 34 dX7_holds_15 (by decide) (fun c5 => ?_) (fun c5 => ?_)
      · refine r_iconst (v := 0) hC dX7_holds_34 (by decide) ?_
        exact r_iretP hC hret rfl dX7_holds_35
      · refine r_iload_n hC dX7_holds_18 rfl 2 rfl ?_
        refine r_aload_n hC dX7_holds_19 rfl 0 rfl ?_
        refine r_getR hC clX7 58 1 60 rfl rfl rfl (hC.n rfl) rfl lf_X7_13 dX7_holds_20 ?_
        refine r_iload_n hC dX7_holds_23 rfl 1 rfl ?_
        refine r_gd (fun g6 => ?_)
        refine r_iald hC 60 4 rfl rfl g6 dX7_holds_24 ?_
        refine r_nmI (fun v7 => ?_)
        refine r_iload_n hC dX7_holds_25 rfl 3 rfl ?_
        refine r_isub hC dX7_holds_26 ?_
        refine r_icmp_gt hC 34 dX7_holds_27 (by decide) (fun c8 => ?_) (fun c8 => ?_)
        · refine r_iconst (v := 0) hC dX7_holds_34 (by decide) ?_
          exact r_iretP hC hret rfl dX7_holds_35
        · refine r_iconst (v := 1) hC dX7_holds_30 (by decide) ?_
          refine r_goto hC 35 dX7_holds_31 (by decide) ?_
          exact r_iretP hC hret rfl dX7_holds_35
set_option maxHeartbeats 4000000 in
set_option maxRecDepth 100000 in
theorem c_X7_put {l : Launch} {w : Wd} (hW : HWd w shX rX 66) (σ : St) (a2 : Int32) (a3 : Int32) (a4 : Int32)  : ∀ res, f_X7_put σ a2 a3 a4 = some res → MtV l yX7_put cX7_put 4 0 0 w [.ref (wA w 58), .int a2, .int a3, .int a4] σ res := by
  refine mt_V (by decide) rfl hW (fun X hl0 hC hret => ?_)
  show RF X w (Aw w (xs_ X).heap.size) 4 (QV X w) (f_X7_put σ a2 a3 a4) 0 [(0, .ref (wA w 58)), (1, .int a2), (2, .int a3), (3, .int a4)] [] σ
  unfold f_X7_put
  refine r_aload_n hC dX7_put_0 rfl 0 rfl ?_
  refine r_getR hC clX7 58 0 59 rfl rfl rfl (hC.n rfl) rfl lf_X7_9 dX7_put_1 ?_
  refine r_iload_n hC dX7_put_4 rfl 1 rfl ?_
  refine r_gd (fun g1 => ?_)
  refine r_iald hC 59 4 rfl rfl g1 dX7_put_5 ?_
  refine r_nmI (fun v2 => ?_)
  refine r_look1 (off := 26) hC 32 0 dX7_put_6 (by decide) (by decide) (by decide) ?_ (fun c7 => ?_)
  · refine r_aload_n hC dX7_put_32 rfl 0 rfl ?_
    refine r_getR hC clX7 58 2 61 rfl rfl rfl (hC.n rfl) rfl lf_X7_18 dX7_put_33 ?_
    refine r_iload_n hC dX7_put_36 rfl 1 rfl ?_
    refine r_gd (fun g3 => ?_)
    have e4 := aaI g3
    refine r_aald hC 61 4 (62 + Int32.toNatClampNeg a2) rfl rfl g3 e4.1 dX7_put_37 ?_
    refine r_iload_n hC dX7_put_38 rfl 2 rfl ?_
    refine r_iload_n hC dX7_put_39 rfl 3 rfl ?_
    refine r_i2b hC dX7_put_40 ?_
    refine r_gd (fun g5 => ?_)
    refine r_iast hC (62 + Int32.toNatClampNeg a2) 40 e4.2.1 e4.2.2 g5 dX7_put_41 ?_
    refine r_nmS (fun σ6 => ?_)
    refine r_goto hC 67 dX7_put_42 (by decide) ?_
    exact r_vret hC hret dX7_put_67
  · refine r_look1 (off := 39) hC 45 1 dX7_put_6 (by decide) (by decide) (by decide) ?_ (fun c12 => ?_)
    · refine r_aload_n hC dX7_put_45 rfl 0 rfl ?_
      refine r_getR hC clX7 58 2 61 rfl rfl rfl (hC.n rfl) rfl lf_X7_18 dX7_put_46 ?_
      refine r_iload_n hC dX7_put_49 rfl 1 rfl ?_
      refine r_gd (fun g8 => ?_)
      have e9 := aaI g8
      refine r_aald hC 61 4 (62 + Int32.toNatClampNeg a2) rfl rfl g8 e9.1 dX7_put_50 ?_
      refine r_iload_n hC dX7_put_51 rfl 2 rfl ?_
      refine r_iload_n hC dX7_put_52 rfl 3 rfl ?_
      refine r_i2s hC dX7_put_53 ?_
      refine r_gd (fun g10 => ?_)
      refine r_iast hC (62 + Int32.toNatClampNeg a2) 40 e9.2.1 e9.2.2 g10 dX7_put_54 ?_
      refine r_nmS (fun σ11 => ?_)
      refine r_goto hC 67 dX7_put_55 (by decide) ?_
      exact r_vret hC hret dX7_put_67
    · refine r_lookD hC 58 dX7_put_6 (by decide) ((lv_osw c7 (by decide)).trans ((lv_osw c12 (by decide)).trans rfl)) (by decide) ?_
      refine r_aload_n hC dX7_put_58 rfl 0 rfl ?_
      refine r_getR hC clX7 58 2 61 rfl rfl rfl (hC.n rfl) rfl lf_X7_18 dX7_put_59 ?_
      refine r_iload_n hC dX7_put_62 rfl 1 rfl ?_
      refine r_gd (fun g13 => ?_)
      have e14 := aaI g13
      refine r_aald hC 61 4 (62 + Int32.toNatClampNeg a2) rfl rfl g13 e14.1 dX7_put_63 ?_
      refine r_iload_n hC dX7_put_64 rfl 2 rfl ?_
      refine r_iload_n hC dX7_put_65 rfl 3 rfl ?_
      refine r_gd (fun g15 => ?_)
      refine r_iast hC (62 + Int32.toNatClampNeg a2) 40 e14.2.1 e14.2.2 g15 dX7_put_66 ?_
      refine r_nmS (fun σ16 => ?_)
      exact r_vret hC hret dX7_put_67
set_option maxHeartbeats 4000000 in
set_option maxRecDepth 100000 in
theorem w_X8_add_l18 {X : Mc} {w : Wd} (hC : Cok X w (Aw w (xs_ X).heap.size) yX8_add.cls cX8_add 5 0 0 shX rX 66) (hret : (xmeth X).sig.returnType = some .int) (a2 : Int32) (a3 : Int64) (σ : St)   (K6 : St → Option (Int32 × St)) (hK6 : ∀ (σ5 : St), RF X w (Aw w (xs_ X).heap.size) 5 (QI X w) (K6 σ5) 51 [(0, .ref (wA w 15)), (1, .int a2)] [] σ5) : ∀ (n : Nat) (x3 : Int32) (σ4 : St), RF X w (Aw w (xs_ X).heap.size) 5 (QI X w) (f_X8_add_l18 a2 a3 K6 n x3 σ4) 18 [(0, .ref (wA w 15)), (1, .int a2), (2, .long a3), (4, .int x3)] [] σ4 := by
  intro n
  induction n with
  | zero => intro x3 σ4; rw [f_X8_add_l18]; exact r_none
  | succ n ih =>
    intro x3 σ4
    rw [f_X8_add_l18]
    refine r_iload hC dX8_add_18 3 rfl ?_
    refine r_iload_n hC dX8_add_20 rfl 1 rfl ?_
    refine r_icmp_ge hC 51 dX8_add_21 (by decide) (fun c7 => ?_) (fun c7 => ?_)
    · exact r_lv [0, 1] rfl (hK6 σ4)
    · refine r_aload_n hC dX8_add_24 rfl 0 rfl ?_
      refine r_getR hC clX8 15 0 16 rfl rfl rfl (hC.n rfl) rfl lf_X8_9 dX8_add_25 ?_
      refine r_aload_n hC dX8_add_28 rfl 0 rfl ?_
      refine r_getI hC clX8 15 1 rfl rfl (hC.n rfl) rfl lf_X8_15 dX8_add_29 ?_
      refine r_nmI (fun v8 => ?_)
      refine r_iload hC dX8_add_32 3 rfl ?_
      refine r_iadd hC dX8_add_34 ?_
      refine r_lload_n hC dX8_add_35 rfl 2 rfl ?_
      refine r_bipush (v := 8) hC dX8_add_36 (by decide) ?_
      refine r_iload hC dX8_add_38 3 rfl ?_
      refine r_imul hC dX8_add_40 ?_
      refine r_lshr hC dX8_add_41 ?_
      refine r_l2i hC dX8_add_42 ?_
      refine r_i2b hC dX8_add_43 ?_
      refine r_gd (fun g9 => ?_)
      refine r_bast hC 16 160 rfl rfl g9 dX8_add_44 ?_
      refine r_nmS (fun σ10 => ?_)
      refine r_iinc (v := x3 + 1) (lv' := [(4, .int (x3 + 1)), (0, .ref (wA w 15)), (1, .int a2), (2, .long a3)]) hC dX8_add_45 3 rfl rfl (by decide) rfl ?_
      refine r_goto hC 18 dX8_add_48 (by decide) ?_
      exact r_lv [1, 2, 3, 0] rfl (ih (x3 + 1) σ10)
set_option maxHeartbeats 4000000 in
set_option maxRecDepth 100000 in
theorem c_X8_add {l : Launch} {w : Wd} (hW : HWd w shX rX 66) (σ : St) (a2 : Int32) (a3 : Int64)  : ∀ res, f_X8_add σ a2 a3 = some res → MtI l yX8_add cX8_add 5 .int 0 0 w [.ref (wA w 15), .int a2, .long a3] σ res := by
  refine mt_I (by decide) rfl hW (fun X hl0 hC hret => ?_)
  show RF X w (Aw w (xs_ X).heap.size) 5 (QI X w) (f_X8_add σ a2 a3) 0 [(0, .ref (wA w 15)), (1, .int a2), (2, .long a3)] [] σ
  unfold f_X8_add
  refine r_iload_n hC dX8_add_0 rfl 1 rfl ?_
  refine r_sipush (v := 160) hC dX8_add_1 (by decide) ?_
  refine r_aload_n hC dX8_add_4 rfl 0 rfl ?_
  refine r_getI hC clX8 15 1 rfl rfl (hC.n rfl) rfl lf_X8_15 dX8_add_5 ?_
  refine r_nmI (fun v1 => ?_)
  refine r_isub hC dX8_add_8 ?_
  refine r_icmp_le hC 15 dX8_add_9 (by decide) (fun c2 => ?_) (fun c2 => ?_)
  · refine r_iconst (v := 0) hC dX8_add_15 (by decide) ?_
    refine r_istore (lv' := [(4, .int 0), (0, .ref (wA w 15)), (1, .int a2), (2, .long a3)]) hC dX8_add_16 (by decide) rfl ?_
    refine r_lv [1, 2, 3, 0] rfl ?_
    refine w_X8_add_l18 hC hret a2 a3 σ _ ?_ FU 0 σ
    · intro σ5
      refine r_aload_n hC dX8_add_51 rfl 0 rfl ?_
      refine r_dup hC dX8_add_52 rfl ?_
      refine r_getI hC clX8 15 1 rfl rfl (hC.n rfl) rfl lf_X8_15 dX8_add_53 ?_
      refine r_nmI (fun v11 => ?_)
      refine r_iload_n hC dX8_add_56 rfl 1 rfl ?_
      refine r_iadd hC dX8_add_57 ?_
      refine r_putI hC clX8 15 1 rfl rfl rfl (hC.n rfl) rfl rfl lf_X8_15 dX8_add_58 ?_
      refine r_nmS (fun σ12 => ?_)
      refine r_aload_n hC dX8_add_61 rfl 0 rfl ?_
      refine r_getI hC clX8 15 1 rfl rfl (hC.n rfl) rfl lf_X8_15 dX8_add_62 ?_
      refine r_nmI (fun v13 => ?_)
      exact r_iret hC hret rfl dX8_add_65
  · refine r_bipush (v := (-4)) hC dX8_add_12 (by decide) ?_
    exact r_iret hC hret rfl dX8_add_14
set_option maxHeartbeats 4000000 in
set_option maxRecDepth 100000 in
theorem c_X8_at {l : Launch} {w : Wd} (hW : HWd w shX rX 66) (σ : St) (a2 : Int32)  : ∀ res, f_X8_at σ a2 = some res → MtI l yX8_at cX8_at 2 .int 0 0 w [.ref (wA w 15), .int a2] σ (res, σ) := by
  refine mt_P (by decide) rfl hW (fun X hl0 hC hret => ?_)
  show RF X w (Aw w (xs_ X).heap.size) 2 (fun r => QI X w (r, σ)) (f_X8_at σ a2) 0 [(0, .ref (wA w 15)), (1, .int a2)] [] σ
  unfold f_X8_at
  refine r_iload_n hC dX8_at_0 rfl 1 rfl ?_
  refine r_if_lt hC 25 dX8_at_1 (by decide) (fun c1 => ?_) (fun c1 => ?_)
  · refine r_iconst (v := (-1)) hC dX8_at_25 (by decide) ?_
    exact r_iretP hC hret rfl dX8_at_26
  · refine r_iload_n hC dX8_at_4 rfl 1 rfl ?_
    refine r_aload_n hC dX8_at_5 rfl 0 rfl ?_
    refine r_getI hC clX8 15 1 rfl rfl (hC.n rfl) rfl lf_X8_15 dX8_at_6 ?_
    refine r_nmI (fun v2 => ?_)
    refine r_icmp_ge hC 25 dX8_at_9 (by decide) (fun c3 => ?_) (fun c3 => ?_)
    · refine r_iconst (v := (-1)) hC dX8_at_25 (by decide) ?_
      exact r_iretP hC hret rfl dX8_at_26
    · refine r_aload_n hC dX8_at_12 rfl 0 rfl ?_
      refine r_getR hC clX8 15 0 16 rfl rfl rfl (hC.n rfl) rfl lf_X8_9 dX8_at_13 ?_
      refine r_iload_n hC dX8_at_16 rfl 1 rfl ?_
      refine r_gd (fun g4 => ?_)
      refine r_bald hC 16 160 rfl rfl g4 dX8_at_17 ?_
      refine r_nmI (fun v5 => ?_)
      refine r_sipush (v := 255) hC dX8_at_18 (by decide) ?_
      refine r_iand hC dX8_at_21 ?_
      refine r_goto hC 26 dX8_at_22 (by decide) ?_
      exact r_iretP hC hret rfl dX8_at_26
set_option maxHeartbeats 4000000 in
set_option maxRecDepth 100000 in
theorem c_X8_digitOf {l : Launch} {w : Wd} (hW : HWd w shX rX 66) (σ : St) (a1 : Int32)  : ∀ res, f_X8_digitOf a1 = some res → MtI l yX8_digitOf cX8_digitOf 1 .int 0 0 w [.int a1] σ (res, σ) := by
  refine mt_P (by decide) rfl hW (fun X hl0 hC hret => ?_)
  show RF X w (Aw w (xs_ X).heap.size) 1 (fun r => QI X w (r, σ)) (f_X8_digitOf a1) 0 [(0, .int a1)] [] σ
  unfold f_X8_digitOf
  refine r_iload_n hC dX8_digitOf_0 rfl 0 rfl ?_
  refine r_bipush (v := 48) hC dX8_digitOf_1 (by decide) ?_
  refine r_icmp_lt hC 19 dX8_digitOf_3 (by decide) (fun c1 => ?_) (fun c1 => ?_)
  · refine r_iconst (v := (-1)) hC dX8_digitOf_19 (by decide) ?_
    exact r_iretP hC hret rfl dX8_digitOf_20
  · refine r_iload_n hC dX8_digitOf_6 rfl 0 rfl ?_
    refine r_bipush (v := 57) hC dX8_digitOf_7 (by decide) ?_
    refine r_icmp_gt hC 19 dX8_digitOf_9 (by decide) (fun c2 => ?_) (fun c2 => ?_)
    · refine r_iconst (v := (-1)) hC dX8_digitOf_19 (by decide) ?_
      exact r_iretP hC hret rfl dX8_digitOf_20
    · refine r_iload_n hC dX8_digitOf_12 rfl 0 rfl ?_
      refine r_bipush (v := 48) hC dX8_digitOf_13 (by decide) ?_
      refine r_isub hC dX8_digitOf_15 ?_
      refine r_goto hC 20 dX8_digitOf_16 (by decide) ?_
      exact r_iretP hC hret rfl dX8_digitOf_20
set_option maxHeartbeats 4000000 in
set_option maxRecDepth 100000 in
theorem c_X8_isLetter {l : Launch} {w : Wd} (hW : HWd w shX rX 66) (σ : St) (a1 : Int32)  : ∀ res, f_X8_isLetter a1 = some res → MtI l yX8_isLetter cX8_isLetter 1 .boolean 0 0 w [.int a1] σ (res, σ) := by
  refine mt_P (by decide) rfl hW (fun X hl0 hC hret => ?_)
  show RF X w (Aw w (xs_ X).heap.size) 1 (fun r => QI X w (r, σ)) (f_X8_isLetter a1) 0 [(0, .int a1)] [] σ
  unfold f_X8_isLetter
  refine r_iload_n hC dX8_isLetter_0 rfl 0 rfl ?_
  refine r_bipush (v := 97) hC dX8_isLetter_1 (by decide) ?_
  refine r_icmp_lt hC 16 dX8_isLetter_3 (by decide) (fun c1 => ?_) (fun c1 => ?_)
  · refine r_iconst (v := 0) hC dX8_isLetter_16 (by decide) ?_
    exact r_iretP hC hret rfl dX8_isLetter_17
  · refine r_iload_n hC dX8_isLetter_6 rfl 0 rfl ?_
    refine r_bipush (v := 122) hC dX8_isLetter_7 (by decide) ?_
    refine r_icmp_gt hC 16 dX8_isLetter_9 (by decide) (fun c2 => ?_) (fun c2 => ?_)
    · refine r_iconst (v := 0) hC dX8_isLetter_16 (by decide) ?_
      exact r_iretP hC hret rfl dX8_isLetter_17
    · refine r_iconst (v := 1) hC dX8_isLetter_12 (by decide) ?_
      refine r_goto hC 17 dX8_isLetter_13 (by decide) ?_
      exact r_iretP hC hret rfl dX8_isLetter_17
set_option maxHeartbeats 4000000 in
set_option maxRecDepth 100000 in
theorem c_X8_isBlank {l : Launch} {w : Wd} (hW : HWd w shX rX 66) (σ : St) (a1 : Int32)  : ∀ res, f_X8_isBlank a1 = some res → MtI l yX8_isBlank cX8_isBlank 1 .boolean 0 0 w [.int a1] σ (res, σ) := by
  refine mt_P (by decide) rfl hW (fun X hl0 hC hret => ?_)
  show RF X w (Aw w (xs_ X).heap.size) 1 (fun r => QI X w (r, σ)) (f_X8_isBlank a1) 0 [(0, .int a1)] [] σ
  unfold f_X8_isBlank
  refine r_iload_n hC dX8_isBlank_0 rfl 0 rfl ?_
  refine r_bipush (v := 32) hC dX8_isBlank_1 (by decide) ?_
  refine r_icmp_eq hC 12 dX8_isBlank_3 (by decide) (fun c1 => ?_) (fun c1 => ?_)
  · refine r_iconst (v := 1) hC dX8_isBlank_12 (by decide) ?_
    refine r_goto hC 17 dX8_isBlank_13 (by decide) ?_
    exact r_iretP hC hret rfl dX8_isBlank_17
  · refine r_iload_n hC dX8_isBlank_6 rfl 0 rfl ?_
    refine r_bipush (v := 10) hC dX8_isBlank_7 (by decide) ?_
    refine r_icmp_ne hC 16 dX8_isBlank_9 (by decide) (fun c2 => ?_) (fun c2 => ?_)
    · refine r_iconst (v := 0) hC dX8_isBlank_16 (by decide) ?_
      exact r_iretP hC hret rfl dX8_isBlank_17
    · refine r_iconst (v := 1) hC dX8_isBlank_12 (by decide) ?_
      refine r_goto hC 17 dX8_isBlank_13 (by decide) ?_
      exact r_iretP hC hret rfl dX8_isBlank_17
set_option maxHeartbeats 4000000 in
set_option maxRecDepth 100000 in
theorem c_X10_add {l : Launch} {w : Wd} (hW : HWd w shX rX 66) (σ : St) (a2 : Int32) (a3 : Int32) (a4 : Int32) (a5 : Int32)  : ∀ res, f_X10_add σ a2 a3 a4 a5 = some res → MtI l yX10_add cX10_add 5 .int 0 0 w [.ref (wA w 37), .int a2, .int a3, .int a4, .int a5] σ res := by
  refine mt_I (by decide) rfl hW (fun X hl0 hC hret => ?_)
  show RF X w (Aw w (xs_ X).heap.size) 5 (QI X w) (f_X10_add σ a2 a3 a4 a5) 0 [(0, .ref (wA w 37)), (1, .int a2), (2, .int a3), (3, .int a4), (4, .int a5)] [] σ
  unfold f_X10_add
  refine r_aload_n hC dX10_add_0 rfl 0 rfl ?_
  refine r_getI hC clX10 37 4 rfl rfl (hC.n rfl) rfl lf_X10_29 dX10_add_1 ?_
  refine r_nmI (fun v1 => ?_)
  refine r_bipush (v := 30) hC dX10_add_4 (by decide) ?_
  refine r_icmp_lt hC 12 dX10_add_6 (by decide) (fun c2 => ?_) (fun c2 => ?_)
  · refine r_aload_n hC dX10_add_12 rfl 0 rfl ?_
    refine r_getR hC clX10 37 0 38 rfl rfl rfl (hC.n rfl) rfl lf_X10_11 dX10_add_13 ?_
    refine r_aload_n hC dX10_add_16 rfl 0 rfl ?_
    refine r_getI hC clX10 37 4 rfl rfl (hC.n rfl) rfl lf_X10_29 dX10_add_17 ?_
    refine r_nmI (fun v3 => ?_)
    refine r_iload_n hC dX10_add_20 rfl 1 rfl ?_
    refine r_gd (fun g4 => ?_)
    refine r_iast hC 38 30 rfl rfl g4 dX10_add_21 ?_
    refine r_nmS (fun σ5 => ?_)
    refine r_aload_n hC dX10_add_22 rfl 0 rfl ?_
    refine r_getR hC clX10 37 1 39 rfl rfl rfl (hC.n rfl) rfl lf_X10_15 dX10_add_23 ?_
    refine r_aload_n hC dX10_add_26 rfl 0 rfl ?_
    refine r_getI hC clX10 37 4 rfl rfl (hC.n rfl) rfl lf_X10_29 dX10_add_27 ?_
    refine r_nmI (fun v6 => ?_)
    refine r_iload_n hC dX10_add_30 rfl 2 rfl ?_
    refine r_gd (fun g7 => ?_)
    refine r_iast hC 39 30 rfl rfl g7 dX10_add_31 ?_
    refine r_nmS (fun σ8 => ?_)
    refine r_aload_n hC dX10_add_32 rfl 0 rfl ?_
    refine r_getR hC clX10 37 2 40 rfl rfl rfl (hC.n rfl) rfl lf_X10_18 dX10_add_33 ?_
    refine r_aload_n hC dX10_add_36 rfl 0 rfl ?_
    refine r_getI hC clX10 37 4 rfl rfl (hC.n rfl) rfl lf_X10_29 dX10_add_37 ?_
    refine r_nmI (fun v9 => ?_)
    refine r_iload_n hC dX10_add_40 rfl 3 rfl ?_
    refine r_gd (fun g10 => ?_)
    refine r_iast hC 40 30 rfl rfl g10 dX10_add_41 ?_
    refine r_nmS (fun σ11 => ?_)
    refine r_aload_n hC dX10_add_42 rfl 0 rfl ?_
    refine r_getR hC clX10 37 3 41 rfl rfl rfl (hC.n rfl) rfl lf_X10_21 dX10_add_43 ?_
    refine r_aload_n hC dX10_add_46 rfl 0 rfl ?_
    refine r_getI hC clX10 37 4 rfl rfl (hC.n rfl) rfl lf_X10_29 dX10_add_47 ?_
    refine r_nmI (fun v12 => ?_)
    refine r_iload hC dX10_add_50 4 rfl ?_
    refine r_gd (fun g13 => ?_)
    refine r_iast hC 41 30 rfl rfl g13 dX10_add_52 ?_
    refine r_nmS (fun σ14 => ?_)
    refine r_aload_n hC dX10_add_53 rfl 0 rfl ?_
    refine r_dup hC dX10_add_54 rfl ?_
    refine r_getI hC clX10 37 4 rfl rfl (hC.n rfl) rfl lf_X10_29 dX10_add_55 ?_
    refine r_nmI (fun v15 => ?_)
    refine r_iconst (v := 1) hC dX10_add_58 (by decide) ?_
    refine r_iadd hC dX10_add_59 ?_
    refine r_putI hC clX10 37 4 rfl rfl rfl (hC.n rfl) rfl rfl lf_X10_29 dX10_add_60 ?_
    refine r_nmS (fun σ16 => ?_)
    refine r_aload_n hC dX10_add_63 rfl 0 rfl ?_
    refine r_getI hC clX10 37 4 rfl rfl (hC.n rfl) rfl lf_X10_29 dX10_add_64 ?_
    refine r_nmI (fun v17 => ?_)
    refine r_iconst (v := 1) hC dX10_add_67 (by decide) ?_
    refine r_isub hC dX10_add_68 ?_
    exact r_iret hC hret rfl dX10_add_69
  · refine r_bipush (v := (-4)) hC dX10_add_9 (by decide) ?_
    exact r_iret hC hret rfl dX10_add_11
set_option maxHeartbeats 4000000 in
set_option maxRecDepth 100000 in
theorem c_X10_hasAll {l : Launch} {w : Wd} (hW : HWd w shX rX 66) (σ : St) (a2 : Int32)  : ∀ res, f_X10_hasAll σ a2 = some res → MtI l yX10_hasAll cX10_hasAll 2 .boolean 0 0 w [.ref (wA w 37), .int a2] σ (res, σ) := by
  refine mt_P (by decide) rfl hW (fun X hl0 hC hret => ?_)
  show RF X w (Aw w (xs_ X).heap.size) 2 (fun r => QI X w (r, σ)) (f_X10_hasAll σ a2) 0 [(0, .ref (wA w 37)), (1, .int a2)] [] σ
  unfold f_X10_hasAll
  refine r_iload_n hC dX10_hasAll_0 rfl 1 rfl ?_
  refine r_if_lt hC 18 dX10_hasAll_1 (by decide) (fun c1 => ?_) (fun c1 => ?_)
  · refine r_iconst (v := 0) hC dX10_hasAll_18 (by decide) ?_
    exact r_iretP hC hret rfl dX10_hasAll_19
  · refine r_iload_n hC dX10_hasAll_4 rfl 1 rfl ?_
    refine r_iconst (v := 1) hC dX10_hasAll_5 (by decide) ?_
    refine r_aload_n hC dX10_hasAll_6 rfl 0 rfl ?_
    refine r_getI hC clX10 37 4 rfl rfl (hC.n rfl) rfl lf_X10_29 dX10_hasAll_7 ?_
    refine r_nmI (fun v2 => ?_)
    refine r_ishl hC dX10_hasAll_10 ?_
    refine r_icmp_ge hC 18 dX10_hasAll_11 (by decide) (fun c3 => ?_) (fun c3 => ?_)
    · refine r_iconst (v := 0) hC dX10_hasAll_18 (by decide) ?_
      exact r_iretP hC hret rfl dX10_hasAll_19
    · refine r_iconst (v := 1) hC dX10_hasAll_14 (by decide) ?_
      refine r_goto hC 19 dX10_hasAll_15 (by decide) ?_
      exact r_iretP hC hret rfl dX10_hasAll_19
set_option maxHeartbeats 4000000 in
set_option maxRecDepth 100000 in
theorem c_X10_cellOf {l : Launch} {w : Wd} (hW : HWd w shX rX 66) (σ : St) (a1 : Int32) (a2 : Int32)  : ∀ res, f_X10_cellOf a1 a2 = some res → MtI l yX10_cellOf cX10_cellOf 2 .int 0 0 w [.int a1, .int a2] σ (res, σ) := by
  refine mt_P (by decide) rfl hW (fun X hl0 hC hret => ?_)
  show RF X w (Aw w (xs_ X).heap.size) 2 (fun r => QI X w (r, σ)) (f_X10_cellOf a1 a2) 0 [(0, .int a1), (1, .int a2)] [] σ
  unfold f_X10_cellOf
  refine r_iload_n hC dX10_cellOf_0 rfl 0 rfl ?_
  refine r_bipush (v := 16) hC dX10_cellOf_1 (by decide) ?_
  refine r_imul hC dX10_cellOf_3 ?_
  refine r_iload_n hC dX10_cellOf_4 rfl 1 rfl ?_
  refine r_iadd hC dX10_cellOf_5 ?_
  exact r_iretP hC hret rfl dX10_cellOf_6
set_option maxHeartbeats 4000000 in
set_option maxRecDepth 100000 in
theorem w_X10_unbind_l8 {X : Mc} {w : Wd} (hC : Cok X w (Aw w (xs_ X).heap.size) yX10_unbind.cls cX10_unbind 2 1 23 shX rX 66) (hret : (xmeth X).sig.returnType = none) (kk : Nat) (σ1 : St) (hkk : shX kk = (1, 256)) (bkk : Nat.blt kk 66 = true)    : ∀ (n : Nat) (x2 : Int32) (σ3 : St), RF X w (Aw w (xs_ X).heap.size) 2 (QV X w) (f_X10_unbind_l8 kk n x2 σ3) 8 [(0, .ref (wA w kk)), (1, .int x2)] [] σ3 := by
  intro n
  induction n with
  | zero => intro x2 σ3; rw [f_X10_unbind_l8]; exact r_none
  | succ n ih =>
    intro x2 σ3
    rw [f_X10_unbind_l8]
    refine r_iload_n hC dX10_unbind_8 rfl 1 rfl ?_
    refine r_bipush (v := 16) hC dX10_unbind_9 (by decide) ?_
    refine r_icmp_ge hC 28 dX10_unbind_11 (by decide) (fun c4 => ?_) (fun c4 => ?_)
    · exact r_vret hC hret dX10_unbind_28
    · refine r_aload_n hC dX10_unbind_14 rfl 0 rfl ?_
      refine r_iload_n hC dX10_unbind_15 rfl 1 rfl ?_
      refine r_iload_n hC dX10_unbind_16 rfl 1 rfl ?_
      refine r_callSP hC (st := [.ref (wA w kk)]) [.int x2, .int x2] (c_X10_cellOf hC.w σ3 x2 x2) yk_X10_cellOf lm_X10_45 rfl ⟨rfl, rfl⟩ rfl dX10_unbind_17 (fun v5 => ?_)
      refine r_iconst (v := 0) hC dX10_unbind_20 (by decide) ?_
      refine r_gd (fun g6 => ?_)
      refine r_iast hC kk 256 hkk bkk g6 dX10_unbind_21 ?_
      refine r_nmS (fun σ7 => ?_)
      refine r_iinc (v := x2 + 1) (lv' := [(1, .int (x2 + 1)), (0, .ref (wA w kk))]) hC dX10_unbind_22 1 rfl rfl (by decide) rfl ?_
      refine r_goto hC 8 dX10_unbind_25 (by decide) ?_
      exact r_lv [1, 0] rfl (ih (x2 + 1) σ7)
set_option maxHeartbeats 4000000 in
set_option maxRecDepth 100000 in
theorem c_X10_unbind {l : Launch} {w : Wd} (hW : HWd w shX rX 66) (σ : St) (kk : Nat) (hkk : shX kk = (1, 256)) (bkk : Nat.blt kk 66 = true) : ∀ res, f_X10_unbind σ kk = some res → MtV l yX10_unbind cX10_unbind 2 1 23 w [.ref (wA w kk)] σ res := by
  refine mt_V (by decide) rfl hW (fun X hl0 hC hret => ?_)
  show RF X w (Aw w (xs_ X).heap.size) 2 (QV X w) (f_X10_unbind σ kk) 0 [(0, .ref (wA w kk))] [] σ
  unfold f_X10_unbind
  refine r_aload_n hC dX10_unbind_0 rfl 0 rfl ?_
  refine r_ldc (v := 999999) hC lc_X10_79 dX10_unbind_1 ?_
  refine r_callSV hC (st := []) [.ref (wA w kk), .int 999999] (c_J7_fill_53178 hC.w σ kk 256 999999 hkk bkk) yk_J7_fill_53178 lm_X10_80 rfl ⟨rfl, rfl⟩ rfl dX10_unbind_3 (fun σ1 => ?_)
  refine r_iconst (v := 0) hC dX10_unbind_6 (by decide) ?_
  refine r_istore_n (lv' := [(1, .int 0), (0, .ref (wA w kk))]) hC dX10_unbind_7 rfl (by decide) rfl ?_
  refine r_lv [1, 0] rfl ?_
  exact w_X10_unbind_l8 hC hret kk σ1 hkk bkk FU 0 σ1
set_option maxHeartbeats 4000000 in
set_option maxRecDepth 100000 in
theorem c_X10_isTold {l : Launch} {w : Wd} (hW : HWd w shX rX 66) (σ : St) (a1 : Int32) (a2 : Int32)  : ∀ res, f_X10_isTold a1 a2 = some res → MtI l yX10_isTold cX10_isTold 2 .boolean 0 0 w [.int a1, .int a2] σ (res, σ) := by
  refine mt_P (by decide) rfl hW (fun X hl0 hC hret => ?_)
  show RF X w (Aw w (xs_ X).heap.size) 2 (fun r => QI X w (r, σ)) (f_X10_isTold a1 a2) 0 [(0, .int a1), (1, .int a2)] [] σ
  unfold f_X10_isTold
  refine r_iload_n hC dX10_isTold_0 rfl 0 rfl ?_
  refine r_iload_n hC dX10_isTold_1 rfl 1 rfl ?_
  refine r_ishr hC dX10_isTold_2 ?_
  refine r_iconst (v := 1) hC dX10_isTold_3 (by decide) ?_
  refine r_iand hC dX10_isTold_4 ?_
  refine r_iconst (v := 1) hC dX10_isTold_5 (by decide) ?_
  refine r_icmp_ne hC 13 dX10_isTold_6 (by decide) (fun c1 => ?_) (fun c1 => ?_)
  · refine r_iconst (v := 0) hC dX10_isTold_13 (by decide) ?_
    exact r_iretP hC hret rfl dX10_isTold_14
  · refine r_iconst (v := 1) hC dX10_isTold_9 (by decide) ?_
    refine r_goto hC 14 dX10_isTold_10 (by decide) ?_
    exact r_iretP hC hret rfl dX10_isTold_14
set_option maxHeartbeats 4000000 in
set_option maxRecDepth 100000 in
theorem w_X10_tighten_l3 {X : Mc} {w : Wd} (hC : Cok X w (Aw w (xs_ X).heap.size) yX10_tighten.cls cX10_tighten 6 1 21 shX rX 66) (hret : (xmeth X).sig.returnType = none) (kk : Nat) (a2 : Int32) (a3 : Int32) (a4 : Int32) (σ : St) (hkk : shX kk = (1, 256)) (bkk : Nat.blt kk 66 = true)    : ∀ (n : Nat) (x1 : Int32) (σ2 : St), RF X w (Aw w (xs_ X).heap.size) 6 (QV X w) (f_X10_tighten_l3 kk a2 a3 a4 n x1 σ2) 3 [(0, .ref (wA w kk)), (1, .int a2), (2, .int a3), (3, .int a4), (4, .int x1)] [] σ2 := by
  intro n
  induction n with
  | zero => intro x1 σ2; rw [f_X10_tighten_l3]; exact r_none
  | succ n ih =>
    intro x1 σ2
    rw [f_X10_tighten_l3]
    refine r_iload hC dX10_tighten_3 4 rfl ?_
    refine r_bipush (v := 16) hC dX10_tighten_5 (by decide) ?_
    refine r_icmp_ge hC 60 dX10_tighten_7 (by decide) (fun c3 => ?_) (fun c3 => ?_)
    · exact r_vret hC hret dX10_tighten_60
    · refine r_aload_n hC dX10_tighten_10 rfl 0 rfl ?_
      refine r_iload_n hC dX10_tighten_11 rfl 2 rfl ?_
      refine r_iload hC dX10_tighten_12 4 rfl ?_
      refine r_callSP hC (st := [.ref (wA w kk)]) [.int a3, .int x1] (c_X10_cellOf hC.w σ2 a3 x1) yk_X10_cellOf lm_X10_45 rfl ⟨rfl, rfl⟩ rfl dX10_tighten_14 (fun v4 => ?_)
      refine r_gd (fun g5 => ?_)
      refine r_iald hC kk 256 hkk bkk g5 dX10_tighten_17 ?_
      refine r_nmI (fun v6 => ?_)
      refine r_istore (lv' := [(5, .int v6), (0, .ref (wA w kk)), (1, .int a2), (2, .int a3), (3, .int a4), (4, .int x1)]) hC dX10_tighten_18 (by decide) rfl ?_
      refine r_iload hC dX10_tighten_20 0 rfl ?_
      refine r_ldc (v := 999999) hC lc_X10_79 dX10_tighten_22 ?_
      refine r_jn (T := fun (j8 : St → Option St) => ∀ (σ7 : St), RF X w (Aw w (xs_ X).heap.size) 6 (QV X w) (j8 σ7) 54 [(0, .ref (wA w kk)), (1, .int a2), (2, .int a3), (3, .int a4), (4, .int x1)] [] σ7) ?_ (fun j8 hj8 => ?_)
      · intro σ7
        refine r_iinc (v := x1 + 1) (lv' := [(4, .int (x1 + 1)), (0, .ref (wA w kk)), (1, .int a2), (2, .int a3), (3, .int a4)]) hC dX10_tighten_54 4 rfl rfl (by decide) rfl ?_
        refine r_goto hC 3 dX10_tighten_57 (by decide) ?_
        exact r_lv [1, 2, 3, 4, 0] rfl (ih (x1 + 1) σ7)
      · refine r_icmp_eq hC 54 dX10_tighten_24 (by decide) (fun c9 => ?_) (fun c9 => ?_)
        · exact r_lv [1, 2, 3, 4, 5] rfl (hj8 σ2)
        · refine r_iload_n hC dX10_tighten_27 rfl 4 rfl ?_
          refine r_iload hC dX10_tighten_28 0 rfl ?_
          refine r_iadd hC dX10_tighten_30 ?_
          refine r_aload_n hC dX10_tighten_31 rfl 1 rfl ?_
          refine r_iload_n hC dX10_tighten_32 rfl 2 rfl ?_
          refine r_iload hC dX10_tighten_33 5 rfl ?_
          refine r_callSP hC (st := [.ref (wA w kk), .int (a4 + v6)]) [.int a2, .int x1] (c_X10_cellOf hC.w σ2 a2 x1) yk_X10_cellOf lm_X10_45 rfl ⟨rfl, rfl⟩ rfl dX10_tighten_35 (fun v10 => ?_)
          refine r_gd (fun g11 => ?_)
          refine r_iald hC kk 256 hkk bkk g11 dX10_tighten_38 ?_
          refine r_nmI (fun v12 => ?_)
          refine r_icmp_ge hC 54 dX10_tighten_39 (by decide) (fun c13 => ?_) (fun c13 => ?_)
          · exact r_lv [1, 2, 3, 4, 5] rfl (hj8 σ2)
          · refine r_aload_n hC dX10_tighten_42 rfl 1 rfl ?_
            refine r_iload_n hC dX10_tighten_43 rfl 2 rfl ?_
            refine r_iload hC dX10_tighten_44 5 rfl ?_
            refine r_callSP hC (st := [.ref (wA w kk)]) [.int a2, .int x1] (c_X10_cellOf hC.w σ2 a2 x1) yk_X10_cellOf lm_X10_45 rfl ⟨rfl, rfl⟩ rfl dX10_tighten_46 (fun v14 => ?_)
            refine r_iload_n hC dX10_tighten_49 rfl 4 rfl ?_
            refine r_iload hC dX10_tighten_50 0 rfl ?_
            refine r_iadd hC dX10_tighten_52 ?_
            refine r_gd (fun g15 => ?_)
            refine r_iast hC kk 256 hkk bkk g15 dX10_tighten_53 ?_
            refine r_nmS (fun σ16 => ?_)
            exact r_lv [1, 2, 3, 4, 5] rfl (hj8 σ16)
set_option maxHeartbeats 4000000 in
set_option maxRecDepth 100000 in
theorem c_X10_tighten {l : Launch} {w : Wd} (hW : HWd w shX rX 66) (σ : St) (kk : Nat) (a2 : Int32) (a3 : Int32) (a4 : Int32) (hkk : shX kk = (1, 256)) (bkk : Nat.blt kk 66 = true) : ∀ res, f_X10_tighten σ kk a2 a3 a4 = some res → MtV l yX10_tighten cX10_tighten 6 1 21 w [.ref (wA w kk), .int a2, .int a3, .int a4] σ res := by
  refine mt_V (by decide) rfl hW (fun X hl0 hC hret => ?_)
  show RF X w (Aw w (xs_ X).heap.size) 6 (QV X w) (f_X10_tighten σ kk a2 a3 a4) 0 [(0, .ref (wA w kk)), (1, .int a2), (2, .int a3), (3, .int a4)] [] σ
  unfold f_X10_tighten
  refine r_iconst (v := 0) hC dX10_tighten_0 (by decide) ?_
  refine r_istore (lv' := [(4, .int 0), (0, .ref (wA w kk)), (1, .int a2), (2, .int a3), (3, .int a4)]) hC dX10_tighten_1 (by decide) rfl ?_
  refine r_lv [1, 2, 3, 4, 0] rfl ?_
  exact w_X10_tighten_l3 hC hret kk a2 a3 a4 σ hkk bkk FU 0 σ
set_option maxHeartbeats 4000000 in
set_option maxRecDepth 100000 in
theorem w_X10_keep_l41 {X : Mc} {w : Wd} (hC : Cok X w (Aw w (xs_ X).heap.size) yX10_keep.cls cX10_keep 7 2 46 shX rX 66) (hret : (xmeth X).sig.returnType = some .boolean) (kk : Nat) (a2 : Int32) (a3 : Int32) (a4 : Int32) (σ : St) (hkk : shX kk = (1, 256)) (bkk : Nat.blt kk 66 = true)    : ∀ (n : Nat) (x9 : Int32) (σ10 : St), RF X w (Aw w (xs_ X).heap.size) 7 (QI X w) (f_X10_keep_l41 kk a2 a3 a4 n x9 σ10) 41 [(0, .ref (wA w kk)), (1, .int a2), (2, .int a3), (3, .int a4), (5, .int x9)] [] σ10 := by
  intro n
  induction n with
  | zero => intro x9 σ10; rw [f_X10_keep_l41]; exact r_none
  | succ n ih =>
    intro x9 σ10
    rw [f_X10_keep_l41]
    refine r_iload hC dX10_keep_41 4 rfl ?_
    refine r_bipush (v := 16) hC dX10_keep_43 (by decide) ?_
    refine r_icmp_ge hC 82 dX10_keep_45 (by decide) (fun c11 => ?_) (fun c11 => ?_)
    · refine r_iconst (v := 1) hC dX10_keep_82 (by decide) ?_
      exact r_iret hC hret rfl dX10_keep_83
    · refine r_aload_n hC dX10_keep_48 rfl 0 rfl ?_
      refine r_iload hC dX10_keep_49 4 rfl ?_
      refine r_iload_n hC dX10_keep_51 rfl 1 rfl ?_
      refine r_callSP hC (st := [.ref (wA w kk)]) [.int x9, .int a2] (c_X10_cellOf hC.w σ10 x9 a2) yk_X10_cellOf lm_X10_45 rfl ⟨rfl, rfl⟩ rfl dX10_keep_52 (fun v12 => ?_)
      refine r_gd (fun g13 => ?_)
      refine r_iald hC kk 256 hkk bkk g13 dX10_keep_55 ?_
      refine r_nmI (fun v14 => ?_)
      refine r_istore (lv' := [(6, .int v14), (0, .ref (wA w kk)), (1, .int a2), (2, .int a3), (3, .int a4), (5, .int x9)]) hC dX10_keep_56 (by decide) rfl ?_
      refine r_iload hC dX10_keep_58 0 rfl ?_
      refine r_ldc (v := 999999) hC lc_X10_79 dX10_keep_60 ?_
      refine r_jn (T := fun (j16 : St → Option (Int32 × St)) => ∀ (σ15 : St), RF X w (Aw w (xs_ X).heap.size) 7 (QI X w) (j16 σ15) 76 [(0, .ref (wA w kk)), (1, .int a2), (2, .int a3), (3, .int a4), (5, .int x9)] [] σ15) ?_ (fun j16 hj16 => ?_)
      · intro σ15
        refine r_iinc (v := x9 + 1) (lv' := [(5, .int (x9 + 1)), (0, .ref (wA w kk)), (1, .int a2), (2, .int a3), (3, .int a4)]) hC dX10_keep_76 4 rfl rfl (by decide) rfl ?_
        refine r_goto hC 41 dX10_keep_79 (by decide) ?_
        exact r_lv [1, 2, 3, 4, 0] rfl (ih (x9 + 1) σ15)
      · refine r_icmp_eq hC 76 dX10_keep_62 (by decide) (fun c17 => ?_) (fun c17 => ?_)
        · exact r_lv [1, 2, 3, 4, 5] rfl (hj16 σ10)
        · refine r_aload_n hC dX10_keep_65 rfl 1 rfl ?_
          refine r_iload hC dX10_keep_66 5 rfl ?_
          refine r_iload_n hC dX10_keep_68 rfl 3 rfl ?_
          refine r_iload hC dX10_keep_69 0 rfl ?_
          refine r_iload_n hC dX10_keep_71 rfl 4 rfl ?_
          refine r_iadd hC dX10_keep_72 ?_
          refine r_callSV hC (st := []) [.ref (wA w kk), .int x9, .int a3, .int (v14 + a4)] (c_X10_tighten hC.w σ10 kk x9 a3 (v14 + a4) hkk bkk) yk_X10_tighten lm_X10_86 rfl ⟨rfl, rfl⟩ rfl dX10_keep_73 (fun σ18 => ?_)
          exact r_lv [1, 2, 3, 4, 5] rfl (hj16 σ18)
set_option maxHeartbeats 4000000 in
set_option maxRecDepth 100000 in
theorem c_X10_keep {l : Launch} {w : Wd} (hW : HWd w shX rX 66) (σ : St) (kk : Nat) (a2 : Int32) (a3 : Int32) (a4 : Int32) (hkk : shX kk = (1, 256)) (bkk : Nat.blt kk 66 = true) : ∀ res, f_X10_keep σ kk a2 a3 a4 = some res → MtI l yX10_keep cX10_keep 7 .boolean 2 46 w [.ref (wA w kk), .int a2, .int a3, .int a4] σ res := by
  refine mt_I (by decide) rfl hW (fun X hl0 hC hret => ?_)
  show RF X w (Aw w (xs_ X).heap.size) 7 (QI X w) (f_X10_keep σ kk a2 a3 a4) 0 [(0, .ref (wA w kk)), (1, .int a2), (2, .int a3), (3, .int a4)] [] σ
  unfold f_X10_keep
  refine r_aload_n hC dX10_keep_0 rfl 0 rfl ?_
  refine r_iload_n hC dX10_keep_1 rfl 2 rfl ?_
  refine r_iload_n hC dX10_keep_2 rfl 1 rfl ?_
  refine r_callSP hC (st := [.ref (wA w kk)]) [.int a3, .int a2] (c_X10_cellOf hC.w σ a3 a2) yk_X10_cellOf lm_X10_45 rfl ⟨rfl, rfl⟩ rfl dX10_keep_3 (fun v1 => ?_)
  refine r_gd (fun g2 => ?_)
  refine r_iald hC kk 256 hkk bkk g2 dX10_keep_6 ?_
  refine r_nmI (fun v3 => ?_)
  refine r_istore (lv' := [(4, .int v3), (0, .ref (wA w kk)), (1, .int a2), (2, .int a3), (3, .int a4)]) hC dX10_keep_7 (by decide) rfl ?_
  refine r_iload hC dX10_keep_9 0 rfl ?_
  refine r_ldc (v := 999999) hC lc_X10_79 dX10_keep_11 ?_
  refine r_jn (T := fun (j4 : Option (Int32 × St)) => RF X w (Aw w (xs_ X).heap.size) 7 (QI X w) j4 25 [(0, .ref (wA w kk)), (1, .int a2), (2, .int a3), (3, .int a4)] [] σ) ?_ (fun j4 hj4 => ?_)
  · refine r_iload_n hC dX10_keep_25 rfl 3 rfl ?_
    refine r_aload_n hC dX10_keep_26 rfl 0 rfl ?_
    refine r_iload_n hC dX10_keep_27 rfl 1 rfl ?_
    refine r_iload_n hC dX10_keep_28 rfl 2 rfl ?_
    refine r_callSP hC (st := [.ref (wA w kk), .int a4]) [.int a2, .int a3] (c_X10_cellOf hC.w σ a2 a3) yk_X10_cellOf lm_X10_45 rfl ⟨rfl, rfl⟩ rfl dX10_keep_29 (fun v5 => ?_)
    refine r_gd (fun g6 => ?_)
    refine r_iald hC kk 256 hkk bkk g6 dX10_keep_32 ?_
    refine r_nmI (fun v7 => ?_)
    refine r_icmp_lt hC 38 dX10_keep_33 (by decide) (fun c8 => ?_) (fun c8 => ?_)
    · refine r_iconst (v := 0) hC dX10_keep_38 (by decide) ?_
      refine r_istore (lv' := [(5, .int 0), (0, .ref (wA w kk)), (1, .int a2), (2, .int a3), (3, .int a4)]) hC dX10_keep_39 (by decide) rfl ?_
      refine r_lv [1, 2, 3, 4, 0] rfl ?_
      exact w_X10_keep_l41 hC hret kk a2 a3 a4 σ hkk bkk FU 0 σ
    · refine r_iconst (v := 1) hC dX10_keep_36 (by decide) ?_
      exact r_iret hC hret rfl dX10_keep_37
  · refine r_icmp_eq hC 25 dX10_keep_13 (by decide) (fun c19 => ?_) (fun c19 => ?_)
    · exact r_lv [1, 2, 3, 4] rfl hj4
    · refine r_iload hC dX10_keep_16 0 rfl ?_
      refine r_iload_n hC dX10_keep_18 rfl 4 rfl ?_
      refine r_iadd hC dX10_keep_19 ?_
      refine r_if_ge hC 25 dX10_keep_20 (by decide) (fun c20 => ?_) (fun c20 => ?_)
      · exact r_lv [1, 2, 3, 4] rfl hj4
      · refine r_iconst (v := 0) hC dX10_keep_23 (by decide) ?_
        exact r_iret hC hret rfl dX10_keep_24
set_option maxHeartbeats 4000000 in
set_option maxRecDepth 100000 in
theorem c_X10_keepOne {l : Launch} {w : Wd} (hW : HWd w shX rX 66) (σ : St) (kk : Nat) (a3 : Int32) (hkk : shX kk = (1, 256)) (bkk : Nat.blt kk 66 = true) : ∀ res, f_X10_keepOne σ kk a3 = some res → MtI l yX10_keepOne cX10_keepOne 3 .boolean 3 72 w [.ref (wA w 37), .ref (wA w kk), .int a3] σ res := by
  refine mt_I (by decide) rfl hW (fun X hl0 hC hret => ?_)
  show RF X w (Aw w (xs_ X).heap.size) 3 (QI X w) (f_X10_keepOne σ kk a3) 0 [(0, .ref (wA w 37)), (1, .ref (wA w kk)), (2, .int a3)] [] σ
  unfold f_X10_keepOne
  refine r_aload_n hC dX10_keepOne_0 rfl 1 rfl ?_
  refine r_aload_n hC dX10_keepOne_1 rfl 0 rfl ?_
  refine r_getR hC clX10 37 0 38 rfl rfl rfl (hC.n rfl) rfl lf_X10_11 dX10_keepOne_2 ?_
  refine r_iload_n hC dX10_keepOne_5 rfl 2 rfl ?_
  refine r_gd (fun g1 => ?_)
  refine r_iald hC 38 30 rfl rfl g1 dX10_keepOne_6 ?_
  refine r_nmI (fun v2 => ?_)
  refine r_aload_n hC dX10_keepOne_7 rfl 0 rfl ?_
  refine r_getR hC clX10 37 1 39 rfl rfl rfl (hC.n rfl) rfl lf_X10_15 dX10_keepOne_8 ?_
  refine r_iload_n hC dX10_keepOne_11 rfl 2 rfl ?_
  refine r_gd (fun g3 => ?_)
  refine r_iald hC 39 30 rfl rfl g3 dX10_keepOne_12 ?_
  refine r_nmI (fun v4 => ?_)
  refine r_aload_n hC dX10_keepOne_13 rfl 0 rfl ?_
  refine r_getR hC clX10 37 2 40 rfl rfl rfl (hC.n rfl) rfl lf_X10_18 dX10_keepOne_14 ?_
  refine r_iload_n hC dX10_keepOne_17 rfl 2 rfl ?_
  refine r_gd (fun g5 => ?_)
  refine r_iald hC 40 30 rfl rfl g5 dX10_keepOne_18 ?_
  refine r_nmI (fun v6 => ?_)
  refine r_aload_n hC dX10_keepOne_19 rfl 0 rfl ?_
  refine r_getR hC clX10 37 3 41 rfl rfl rfl (hC.n rfl) rfl lf_X10_21 dX10_keepOne_20 ?_
  refine r_iload_n hC dX10_keepOne_23 rfl 2 rfl ?_
  refine r_gd (fun g7 => ?_)
  refine r_iald hC 41 30 rfl rfl g7 dX10_keepOne_24 ?_
  refine r_nmI (fun v8 => ?_)
  refine r_iadd hC dX10_keepOne_25 ?_
  refine r_callSI hC (st := []) [.ref (wA w kk), .int v2, .int v4, .int (v6 + v8)] (c_X10_keep hC.w σ kk v2 v4 (v6 + v8) hkk bkk) yk_X10_keep lm_X10_75 rfl ⟨rfl, rfl⟩ rfl dX10_keepOne_26 (fun v9 σ10 => ?_)
  refine r_if_eq hC 68 dX10_keepOne_29 (by decide) (fun c11 => ?_) (fun c11 => ?_)
  · refine r_iconst (v := 0) hC dX10_keepOne_68 (by decide) ?_
    exact r_iret hC hret rfl dX10_keepOne_69
  · refine r_aload_n hC dX10_keepOne_32 rfl 1 rfl ?_
    refine r_aload_n hC dX10_keepOne_33 rfl 0 rfl ?_
    refine r_getR hC clX10 37 1 39 rfl rfl rfl (hC.n rfl) rfl lf_X10_15 dX10_keepOne_34 ?_
    refine r_iload_n hC dX10_keepOne_37 rfl 2 rfl ?_
    refine r_gd (fun g12 => ?_)
    refine r_iald hC 39 30 rfl rfl g12 dX10_keepOne_38 ?_
    refine r_nmI (fun v13 => ?_)
    refine r_aload_n hC dX10_keepOne_39 rfl 0 rfl ?_
    refine r_getR hC clX10 37 0 38 rfl rfl rfl (hC.n rfl) rfl lf_X10_11 dX10_keepOne_40 ?_
    refine r_iload_n hC dX10_keepOne_43 rfl 2 rfl ?_
    refine r_gd (fun g14 => ?_)
    refine r_iald hC 38 30 rfl rfl g14 dX10_keepOne_44 ?_
    refine r_nmI (fun v15 => ?_)
    refine r_aload_n hC dX10_keepOne_45 rfl 0 rfl ?_
    refine r_getR hC clX10 37 3 41 rfl rfl rfl (hC.n rfl) rfl lf_X10_21 dX10_keepOne_46 ?_
    refine r_iload_n hC dX10_keepOne_49 rfl 2 rfl ?_
    refine r_gd (fun g16 => ?_)
    refine r_iald hC 41 30 rfl rfl g16 dX10_keepOne_50 ?_
    refine r_nmI (fun v17 => ?_)
    refine r_aload_n hC dX10_keepOne_51 rfl 0 rfl ?_
    refine r_getR hC clX10 37 2 40 rfl rfl rfl (hC.n rfl) rfl lf_X10_18 dX10_keepOne_52 ?_
    refine r_iload_n hC dX10_keepOne_55 rfl 2 rfl ?_
    refine r_gd (fun g18 => ?_)
    refine r_iald hC 40 30 rfl rfl g18 dX10_keepOne_56 ?_
    refine r_nmI (fun v19 => ?_)
    refine r_isub hC dX10_keepOne_57 ?_
    refine r_callSI hC (st := []) [.ref (wA w kk), .int v13, .int v15, .int (v17 - v19)] (c_X10_keep hC.w σ10 kk v13 v15 (v17 - v19) hkk bkk) yk_X10_keep lm_X10_75 rfl ⟨rfl, rfl⟩ rfl dX10_keepOne_58 (fun v20 σ21 => ?_)
    refine r_if_eq hC 68 dX10_keepOne_61 (by decide) (fun c22 => ?_) (fun c22 => ?_)
    · refine r_iconst (v := 0) hC dX10_keepOne_68 (by decide) ?_
      exact r_iret hC hret rfl dX10_keepOne_69
    · refine r_iconst (v := 1) hC dX10_keepOne_64 (by decide) ?_
      refine r_goto hC 69 dX10_keepOne_65 (by decide) ?_
      exact r_iret hC hret rfl dX10_keepOne_69
set_option maxHeartbeats 4000000 in
set_option maxRecDepth 100000 in
theorem w_X10_keepAll_l11 {X : Mc} {w : Wd} (hC : Cok X w (Aw w (xs_ X).heap.size) yX10_keepAll.cls cX10_keepAll 3 4 94 shX rX 66) (hret : (xmeth X).sig.returnType = some .boolean) (a2 : Int32) (σ1 : St)     : ∀ (n : Nat) (x2 : Int32) (σ3 : St), RF X w (Aw w (xs_ X).heap.size) 3 (QI X w) (f_X10_keepAll_l11 a2 n x2 σ3) 11 [(0, .ref (wA w 37)), (1, .int a2), (2, .int x2)] [] σ3 := by
  intro n
  induction n with
  | zero => intro x2 σ3; rw [f_X10_keepAll_l11]; exact r_none
  | succ n ih =>
    intro x2 σ3
    rw [f_X10_keepAll_l11]
    refine r_iload_n hC dX10_keepAll_11 rfl 2 rfl ?_
    refine r_aload_n hC dX10_keepAll_12 rfl 0 rfl ?_
    refine r_getI hC clX10 37 4 rfl rfl (hC.n rfl) rfl lf_X10_29 dX10_keepAll_13 ?_
    refine r_nmI (fun v4 => ?_)
    refine r_icmp_ge hC 49 dX10_keepAll_16 (by decide) (fun c5 => ?_) (fun c5 => ?_)
    · refine r_iconst (v := 1) hC dX10_keepAll_49 (by decide) ?_
      exact r_iret hC hret rfl dX10_keepAll_50
    · refine r_iload_n hC dX10_keepAll_19 rfl 1 rfl ?_
      refine r_iload_n hC dX10_keepAll_20 rfl 2 rfl ?_
      refine r_callSP hC (st := []) [.int a2, .int x2] (c_X10_isTold hC.w σ3 a2 x2) yk_X10_isTold lm_X10_37 rfl ⟨rfl, rfl⟩ rfl dX10_keepAll_21 (fun v6 => ?_)
      refine r_jn (T := fun (j8 : St → Option (Int32 × St)) => ∀ (σ7 : St), RF X w (Aw w (xs_ X).heap.size) 3 (QI X w) (j8 σ7) 43 [(0, .ref (wA w 37)), (1, .int a2), (2, .int x2)] [] σ7) ?_ (fun j8 hj8 => ?_)
      · intro σ7
        refine r_iinc (v := x2 + 1) (lv' := [(2, .int (x2 + 1)), (0, .ref (wA w 37)), (1, .int a2)]) hC dX10_keepAll_43 2 rfl rfl (by decide) rfl ?_
        refine r_goto hC 11 dX10_keepAll_46 (by decide) ?_
        exact r_lv [1, 2, 0] rfl (ih (x2 + 1) σ7)
      · refine r_if_eq hC 43 dX10_keepAll_24 (by decide) (fun c9 => ?_) (fun c9 => ?_)
        · exact r_lv [0, 1, 2] rfl (hj8 σ3)
        · refine r_aload_n hC dX10_keepAll_27 rfl 0 rfl ?_
          refine r_aload_n hC dX10_keepAll_28 rfl 0 rfl ?_
          refine r_getR hC clX10 37 5 42 rfl rfl rfl (hC.n rfl) rfl lf_X10_26 dX10_keepAll_29 ?_
          refine r_iconst (v := 0) hC dX10_keepAll_32 (by decide) ?_
          refine r_aald hC 42 13 43 rfl rfl (by decide) rfl dX10_keepAll_33 ?_
          refine r_iload_n hC dX10_keepAll_34 rfl 2 rfl ?_
          refine r_callVI hC (b := 37) (ci := 10) (st := []) [.ref (wA w 43), .int x2] rfl (hC.n rfl) rfl rfl (c_X10_keepOne hC.w σ3 43 x2 rfl rfl) yk_X10_keepOne lm_X10_41 rfl ⟨rfl, rfl⟩ rfl dX10_keepAll_35 (fun v10 σ11 => ?_)
          refine r_if_ne hC 43 dX10_keepAll_38 (by decide) (fun c12 => ?_) (fun c12 => ?_)
          · exact r_lv [0, 1, 2] rfl (hj8 σ11)
          · refine r_iconst (v := 0) hC dX10_keepAll_41 (by decide) ?_
            exact r_iret hC hret rfl dX10_keepAll_42
set_option maxHeartbeats 4000000 in
set_option maxRecDepth 100000 in
theorem c_X10_keepAll {l : Launch} {w : Wd} (hW : HWd w shX rX 66) (σ : St) (a2 : Int32)  : ∀ res, f_X10_keepAll σ a2 = some res → MtI l yX10_keepAll cX10_keepAll 3 .boolean 4 94 w [.ref (wA w 37), .int a2] σ res := by
  refine mt_I (by decide) rfl hW (fun X hl0 hC hret => ?_)
  show RF X w (Aw w (xs_ X).heap.size) 3 (QI X w) (f_X10_keepAll σ a2) 0 [(0, .ref (wA w 37)), (1, .int a2)] [] σ
  unfold f_X10_keepAll
  refine r_aload_n hC dX10_keepAll_0 rfl 0 rfl ?_
  refine r_getR hC clX10 37 5 42 rfl rfl rfl (hC.n rfl) rfl lf_X10_26 dX10_keepAll_1 ?_
  refine r_iconst (v := 0) hC dX10_keepAll_4 (by decide) ?_
  refine r_aald hC 42 13 43 rfl rfl (by decide) rfl dX10_keepAll_5 ?_
  refine r_callSV hC (st := []) [.ref (wA w 43)] (c_X10_unbind hC.w σ 43 rfl rfl) yk_X10_unbind lm_X10_33 rfl ⟨rfl, rfl⟩ rfl dX10_keepAll_6 (fun σ1 => ?_)
  refine r_iconst (v := 0) hC dX10_keepAll_9 (by decide) ?_
  refine r_istore_n (lv' := [(2, .int 0), (0, .ref (wA w 37)), (1, .int a2)]) hC dX10_keepAll_10 rfl (by decide) rfl ?_
  refine r_lv [1, 2, 0] rfl ?_
  exact w_X10_keepAll_l11 hC hret a2 σ1 FU 0 σ1
set_option maxHeartbeats 4000000 in
set_option maxRecDepth 100000 in
theorem c_X10_mostOf {l : Launch} {w : Wd} (hW : HWd w shX rX 66) (σ : St) (a2 : Int32) (a3 : Int32)  : ∀ res, f_X10_mostOf σ a2 a3 = some res → MtI l yX10_mostOf cX10_mostOf 3 .int 1 21 w [.ref (wA w 37), .int a2, .int a3] σ (res, σ) := by
  refine mt_P (by decide) rfl hW (fun X hl0 hC hret => ?_)
  show RF X w (Aw w (xs_ X).heap.size) 3 (fun r => QI X w (r, σ)) (f_X10_mostOf σ a2 a3) 0 [(0, .ref (wA w 37)), (1, .int a2), (2, .int a3)] [] σ
  unfold f_X10_mostOf
  refine r_aload_n hC dX10_mostOf_0 rfl 0 rfl ?_
  refine r_getR hC clX10 37 5 42 rfl rfl rfl (hC.n rfl) rfl lf_X10_26 dX10_mostOf_1 ?_
  refine r_iconst (v := 0) hC dX10_mostOf_4 (by decide) ?_
  refine r_aald hC 42 13 43 rfl rfl (by decide) rfl dX10_mostOf_5 ?_
  refine r_iload_n hC dX10_mostOf_6 rfl 1 rfl ?_
  refine r_iload_n hC dX10_mostOf_7 rfl 2 rfl ?_
  refine r_callSP hC (st := [.ref (wA w 43)]) [.int a2, .int a3] (c_X10_cellOf hC.w σ a2 a3) yk_X10_cellOf lm_X10_45 rfl ⟨rfl, rfl⟩ rfl dX10_mostOf_8 (fun v1 => ?_)
  refine r_gd (fun g2 => ?_)
  refine r_iald hC 43 256 rfl rfl g2 dX10_mostOf_11 ?_
  refine r_nmI (fun v3 => ?_)
  exact r_iretP hC hret rfl dX10_mostOf_12
set_option maxHeartbeats 4000000 in
set_option maxRecDepth 100000 in
theorem c_J6_bitCount_0f7a4 {l : Launch} {w : Wd} (hW : HWd w shX rX 66) (σ : St) (a1 : Int32)  : ∀ res, f_J6_bitCount_0f7a4 a1 = some res → MtI l yJ6_bitCount_0f7a4 cJ6_bitCount_0f7a4 1 .int 0 0 w [.int a1] σ (res, σ) := by
  refine mt_P (by decide) rfl hW (fun X hl0 hC hret => ?_)
  show RF X w (Aw w (xs_ X).heap.size) 1 (fun r => QI X w (r, σ)) (f_J6_bitCount_0f7a4 a1) 0 [(0, .int a1)] [] σ
  unfold f_J6_bitCount_0f7a4
  refine r_iload_n hC dJ6_bitCount_0f7a4_0 rfl 0 rfl ?_
  refine r_iload_n hC dJ6_bitCount_0f7a4_1 rfl 0 rfl ?_
  refine r_iconst (v := 1) hC dJ6_bitCount_0f7a4_2 (by decide) ?_
  refine r_iushr hC dJ6_bitCount_0f7a4_3 ?_
  refine r_ldcw (v := 1431655765) hC lc_J6_265 dJ6_bitCount_0f7a4_4 ?_
  refine r_iand hC dJ6_bitCount_0f7a4_7 ?_
  refine r_isub hC dJ6_bitCount_0f7a4_8 ?_
  refine r_nmI (fun v1 => ?_)
  refine r_istore_n (lv' := [(0, .int v1)]) hC dJ6_bitCount_0f7a4_9 rfl (by decide) rfl ?_
  refine r_iload_n hC dJ6_bitCount_0f7a4_10 rfl 0 rfl ?_
  refine r_ldcw (v := 858993459) hC lc_J6_266 dJ6_bitCount_0f7a4_11 ?_
  refine r_iand hC dJ6_bitCount_0f7a4_14 ?_
  refine r_iload_n hC dJ6_bitCount_0f7a4_15 rfl 0 rfl ?_
  refine r_iconst (v := 2) hC dJ6_bitCount_0f7a4_16 (by decide) ?_
  refine r_iushr hC dJ6_bitCount_0f7a4_17 ?_
  refine r_ldcw (v := 858993459) hC lc_J6_266 dJ6_bitCount_0f7a4_18 ?_
  refine r_iand hC dJ6_bitCount_0f7a4_21 ?_
  refine r_iadd hC dJ6_bitCount_0f7a4_22 ?_
  refine r_nmI (fun v2 => ?_)
  refine r_istore_n (lv' := [(0, .int v2)]) hC dJ6_bitCount_0f7a4_23 rfl (by decide) rfl ?_
  refine r_iload_n hC dJ6_bitCount_0f7a4_24 rfl 0 rfl ?_
  refine r_iload_n hC dJ6_bitCount_0f7a4_25 rfl 0 rfl ?_
  refine r_iconst (v := 4) hC dJ6_bitCount_0f7a4_26 (by decide) ?_
  refine r_iushr hC dJ6_bitCount_0f7a4_27 ?_
  refine r_iadd hC dJ6_bitCount_0f7a4_28 ?_
  refine r_ldcw (v := 252645135) hC lc_J6_267 dJ6_bitCount_0f7a4_29 ?_
  refine r_iand hC dJ6_bitCount_0f7a4_32 ?_
  refine r_nmI (fun v3 => ?_)
  refine r_istore_n (lv' := [(0, .int v3)]) hC dJ6_bitCount_0f7a4_33 rfl (by decide) rfl ?_
  refine r_iload_n hC dJ6_bitCount_0f7a4_34 rfl 0 rfl ?_
  refine r_iload_n hC dJ6_bitCount_0f7a4_35 rfl 0 rfl ?_
  refine r_bipush (v := 8) hC dJ6_bitCount_0f7a4_36 (by decide) ?_
  refine r_iushr hC dJ6_bitCount_0f7a4_38 ?_
  refine r_iadd hC dJ6_bitCount_0f7a4_39 ?_
  refine r_nmI (fun v4 => ?_)
  refine r_istore_n (lv' := [(0, .int v4)]) hC dJ6_bitCount_0f7a4_40 rfl (by decide) rfl ?_
  refine r_iload_n hC dJ6_bitCount_0f7a4_41 rfl 0 rfl ?_
  refine r_iload_n hC dJ6_bitCount_0f7a4_42 rfl 0 rfl ?_
  refine r_bipush (v := 16) hC dJ6_bitCount_0f7a4_43 (by decide) ?_
  refine r_iushr hC dJ6_bitCount_0f7a4_45 ?_
  refine r_iadd hC dJ6_bitCount_0f7a4_46 ?_
  refine r_nmI (fun v5 => ?_)
  refine r_istore_n (lv' := [(0, .int v5)]) hC dJ6_bitCount_0f7a4_47 rfl (by decide) rfl ?_
  refine r_iload_n hC dJ6_bitCount_0f7a4_48 rfl 0 rfl ?_
  refine r_bipush (v := 63) hC dJ6_bitCount_0f7a4_49 (by decide) ?_
  refine r_iand hC dJ6_bitCount_0f7a4_51 ?_
  exact r_iretP hC hret rfl dJ6_bitCount_0f7a4_52
set_option maxHeartbeats 4000000 in
set_option maxRecDepth 100000 in
theorem c_X10_takeOver {l : Launch} {w : Wd} (hW : HWd w shX rX 66) (σ : St) (a2 : Int32)  : ∀ res, f_X10_takeOver σ a2 = some res → MtV l yX10_takeOver cX10_takeOver 2 1 60 w [.ref (wA w 37), .int a2] σ res := by
  refine mt_V (by decide) rfl hW (fun X hl0 hC hret => ?_)
  show RF X w (Aw w (xs_ X).heap.size) 2 (QV X w) (f_X10_takeOver σ a2) 0 [(0, .ref (wA w 37)), (1, .int a2)] [] σ
  unfold f_X10_takeOver
  refine r_aload_n hC dX10_takeOver_0 rfl 0 rfl ?_
  refine r_getR hC clX10 37 5 42 rfl rfl rfl (hC.n rfl) rfl lf_X10_26 dX10_takeOver_1 ?_
  refine r_iload_n hC dX10_takeOver_4 rfl 1 rfl ?_
  refine r_iconst (v := 1) hC dX10_takeOver_5 (by decide) ?_
  refine r_iadd hC dX10_takeOver_6 ?_
  refine r_nmI (fun v1 => ?_)
  refine r_gd (fun g2 => ?_)
  have e3 := aaB g2
  refine r_aald hC 42 13 (43 + Int32.toNatClampNeg v1) rfl rfl g2 e3.1 dX10_takeOver_7 ?_
  refine r_iconst (v := 0) hC dX10_takeOver_8 (by decide) ?_
  refine r_aload_n hC dX10_takeOver_9 rfl 0 rfl ?_
  refine r_getR hC clX10 37 5 42 rfl rfl rfl (hC.n rfl) rfl lf_X10_26 dX10_takeOver_10 ?_
  refine r_iload_n hC dX10_takeOver_13 rfl 1 rfl ?_
  refine r_gd (fun g4 => ?_)
  have e5 := aaB g4
  refine r_aald hC 42 13 (43 + Int32.toNatClampNeg a2) rfl rfl g4 e5.1 dX10_takeOver_14 ?_
  refine r_iconst (v := 0) hC dX10_takeOver_15 (by decide) ?_
  refine r_aload_n hC dX10_takeOver_16 rfl 0 rfl ?_
  refine r_getR hC clX10 37 5 42 rfl rfl rfl (hC.n rfl) rfl lf_X10_26 dX10_takeOver_17 ?_
  refine r_iload_n hC dX10_takeOver_20 rfl 1 rfl ?_
  refine r_gd (fun g6 => ?_)
  have e7 := aaB g6
  refine r_aald hC 42 13 (43 + Int32.toNatClampNeg a2) rfl rfl g6 e7.1 dX10_takeOver_21 ?_
  refine r_alen1 (v := 256) hC (43 + Int32.toNatClampNeg a2) 256 e7.2.1 e7.2.2 (by decide) dX10_takeOver_22 ?_
  refine r_gd (fun g8 => ?_)
  refine r_copyi hC (43 + Int32.toNatClampNeg v1) (43 + Int32.toNatClampNeg a2) 256 256 e3.2.1 e5.2.1 e3.2.2 e5.2.2 g8 (by decide) (Nat.le_of_ble_eq_true rfl) lm_X10_69 wn_copy ws_copy wi_sys dX10_takeOver_23 ?_
  refine r_nmS (fun σ9 => ?_)
  exact r_vret hC hret dX10_takeOver_26
set_option maxHeartbeats 4000000 in
set_option maxRecDepth 100000 in
theorem cb_X10_seek {l : Launch} {w : Wd} (hW : HWd w shX rX 66) (dd : Nat) (rc : Nat → St → Int32 → Int32 → Int32 → Option St) (hr0 : ∀ (σ : St) (b1 : Int32) (b2 : Int32) (b3 : Int32) (res : St), rc 0 σ b1 b2 b3 = some res → MtV l yX10_seek cX10_seek 4 (4 + dd) (94 + 40 * dd) w [.ref (wA w 37), .int b1, .int b2, .int b3] σ res) (σ : St) (a2 : Int32) (a3 : Int32) (a4 : Int32) : ∀ res, fb_X10_seek rc σ a2 a3 a4 = some res → MtV l yX10_seek cX10_seek 4 (4 + (dd + 1)) (94 + 40 * (dd + 1)) w [.ref (wA w 37), .int a2, .int a3, .int a4] σ res := by
  refine mt_V (by decide) rfl hW (fun X hl0 hC hret => ?_)
  subst hl0
  show RF X w (Aw w (xs_ X).heap.size) 4 (QV X w) (fb_X10_seek rc σ a2 a3 a4) 0 [(0, .ref (wA w 37)), (1, .int a2), (2, .int a3), (3, .int a4)] [] σ
  unfold fb_X10_seek
  refine r_iload_n hC dX10_seek_0 rfl 3 rfl ?_
  refine r_callSP hC (st := []) [.int a4] (c_J6_bitCount_0f7a4 hC.w σ a4) yk_J6_bitCount_0f7a4 lm_X10_59 rfl ⟨Nat.ble_eq.mpr (by omega), Nat.ble_eq.mpr (by omega)⟩ rfl dX10_seek_1 (fun v1 => ?_)
  refine r_aload_n hC dX10_seek_4 rfl 0 rfl ?_
  refine r_getI hC clX10 37 6 rfl rfl (hC.n rfl) rfl lf_X10_49 dX10_seek_5 ?_
  refine r_nmI (fun v2 => ?_)
  refine r_icmp_lt hC 12 dX10_seek_8 (by decide) (fun c3 => ?_) (fun c3 => ?_)
  · refine r_iload_n hC dX10_seek_12 rfl 2 rfl ?_
    refine r_jn (T := fun (j4 : Option St) => RF X w (Aw w (xs_ X).heap.size) 4 (QV X w) j4 22 [(0, .ref (wA w 37)), (3, .int a4)] [] σ) ?_ (fun j4 hj4 => ?_)
    · refine r_aload_n hC dX10_seek_22 rfl 0 rfl ?_
      refine r_iload_n hC dX10_seek_23 rfl 1 rfl ?_
      refine r_callSP hC (st := [.ref (wA w 37)]) [.int a4] (c_J6_bitCount_0f7a4 hC.w σ a4) yk_J6_bitCount_0f7a4 lm_X10_59 rfl ⟨Nat.ble_eq.mpr (by omega), Nat.ble_eq.mpr (by omega)⟩ rfl dX10_seek_24 (fun v5 => ?_)
      refine r_putI hC clX10 37 6 rfl rfl rfl (hC.n rfl) rfl rfl lf_X10_49 dX10_seek_27 ?_
      refine r_nmS (fun σ6 => ?_)
      refine r_aload_n hC dX10_seek_30 rfl 0 rfl ?_
      refine r_iload_n hC dX10_seek_31 rfl 1 rfl ?_
      refine r_putI hC clX10 37 7 rfl rfl rfl (hC.n rfl) rfl rfl lf_X10_52 dX10_seek_32 ?_
      refine r_nmS (fun σ7 => ?_)
      exact r_vret hC hret dX10_seek_35
    · refine r_if_lt hC 22 dX10_seek_13 (by decide) (fun c8 => ?_) (fun c8 => ?_)
      · exact r_lv [0, 3] rfl hj4
      · refine r_iload_n hC dX10_seek_16 rfl 2 rfl ?_
        refine r_bipush (v := 12) hC dX10_seek_17 (by decide) ?_
        refine r_icmp_lt hC 36 dX10_seek_19 (by decide) (fun c9 => ?_) (fun c9 => ?_)
        · refine r_aload_n hC dX10_seek_36 rfl 0 rfl ?_
          refine r_iload_n hC dX10_seek_37 rfl 2 rfl ?_
          refine r_callVV hC (b := 37) (ci := 10) (st := []) [.int a3] rfl (hC.n rfl) rfl rfl (c_X10_takeOver hC.w σ a3) yk_X10_takeOver lm_X10_65 rfl ⟨Nat.ble_eq.mpr (by omega), Nat.ble_eq.mpr (by omega)⟩ rfl dX10_seek_38 (fun σ10 => ?_)
          refine r_iload_n hC dX10_seek_41 rfl 1 rfl ?_
          refine r_iload_n hC dX10_seek_42 rfl 2 rfl ?_
          refine r_callSP hC (st := []) [.int a2, .int a3] (c_X10_isTold hC.w σ10 a2 a3) yk_X10_isTold lm_X10_37 rfl ⟨Nat.ble_eq.mpr (by omega), Nat.ble_eq.mpr (by omega)⟩ rfl dX10_seek_43 (fun v11 => ?_)
          refine r_if_ne hC 59 dX10_seek_46 (by decide) (fun c12 => ?_) (fun c12 => ?_)
          · refine r_aload_n hC dX10_seek_59 rfl 0 rfl ?_
            refine r_aload_n hC dX10_seek_60 rfl 0 rfl ?_
            refine r_getR hC clX10 37 5 42 rfl rfl rfl (hC.n rfl) rfl lf_X10_26 dX10_seek_61 ?_
            refine r_iload_n hC dX10_seek_64 rfl 2 rfl ?_
            refine r_gd (fun g13 => ?_)
            have e14 := aaB g13
            refine r_aald hC 42 13 (43 + Int32.toNatClampNeg a3) rfl rfl g13 e14.1 dX10_seek_65 ?_
            refine r_iload_n hC dX10_seek_66 rfl 2 rfl ?_
            refine r_callVI hC (b := 37) (ci := 10) (st := []) [.ref (wA w (43 + Int32.toNatClampNeg a3)), .int a3] rfl (hC.n rfl) rfl rfl (c_X10_keepOne hC.w σ10 (43 + Int32.toNatClampNeg a3) a3 e14.2.1 e14.2.2) yk_X10_keepOne lm_X10_41 rfl ⟨Nat.ble_eq.mpr (by omega), Nat.ble_eq.mpr (by omega)⟩ rfl dX10_seek_67 (fun v15 σ16 => ?_)
            refine r_jn (T := fun (j18 : St → Option St) => ∀ (σ17 : St), RF X w (Aw w (xs_ X).heap.size) 4 (QV X w) (j18 σ17) 82 [(0, .ref (wA w 37)), (1, .int a2), (2, .int a3), (3, .int a4)] [] σ17) ?_ (fun j18 hj18 => ?_)
            · intro σ17
              refine r_aload_n hC dX10_seek_82 rfl 0 rfl ?_
              refine r_iload_n hC dX10_seek_83 rfl 2 rfl ?_
              refine r_callVV hC (b := 37) (ci := 10) (st := []) [.int a3] rfl (hC.n rfl) rfl rfl (c_X10_takeOver hC.w σ17 a3) yk_X10_takeOver lm_X10_65 rfl ⟨Nat.ble_eq.mpr (by omega), Nat.ble_eq.mpr (by omega)⟩ rfl dX10_seek_84 (fun σ19 => ?_)
              refine r_aload_n hC dX10_seek_87 rfl 0 rfl ?_
              refine r_iload_n hC dX10_seek_88 rfl 1 rfl ?_
              refine r_iload_n hC dX10_seek_89 rfl 2 rfl ?_
              refine r_iconst (v := 1) hC dX10_seek_90 (by decide) ?_
              refine r_isub hC dX10_seek_91 ?_
              refine r_iload_n hC dX10_seek_92 rfl 3 rfl ?_
              refine r_iconst (v := 1) hC dX10_seek_93 (by decide) ?_
              refine r_iload_n hC dX10_seek_94 rfl 2 rfl ?_
              refine r_ishl hC dX10_seek_95 ?_
              refine r_ior hC dX10_seek_96 ?_
              refine r_callVV hC (b := 37) (ci := 10) (st := []) [.int a2, .int (a3 - 1), .int (a4 ||| (1 <<< (a3 &&& 31)))] rfl (hC.n rfl) rfl rfl (hr0 σ19 a2 (a3 - 1) (a4 ||| (1 <<< (a3 &&& 31)))) yk_X10_seek lm_X10_55 rfl ⟨Nat.ble_eq.mpr (by omega), Nat.ble_eq.mpr (by omega)⟩ rfl dX10_seek_97 (fun σ20 => ?_)
              exact r_vret hC hret dX10_seek_100
            · refine r_if_eq hC 82 dX10_seek_70 (by decide) (fun c21 => ?_) (fun c21 => ?_)
              · exact r_lv [0, 1, 2, 3] rfl (hj18 σ16)
              · refine r_aload_n hC dX10_seek_73 rfl 0 rfl ?_
                refine r_iload_n hC dX10_seek_74 rfl 1 rfl ?_
                refine r_iload_n hC dX10_seek_75 rfl 2 rfl ?_
                refine r_iconst (v := 1) hC dX10_seek_76 (by decide) ?_
                refine r_isub hC dX10_seek_77 ?_
                refine r_iload_n hC dX10_seek_78 rfl 3 rfl ?_
                refine r_callVV hC (b := 37) (ci := 10) (st := []) [.int a2, .int (a3 - 1), .int a4] rfl (hC.n rfl) rfl rfl (hr0 σ16 a2 (a3 - 1) a4) yk_X10_seek lm_X10_55 rfl ⟨Nat.ble_eq.mpr (by omega), Nat.ble_eq.mpr (by omega)⟩ rfl dX10_seek_79 (fun σ22 => ?_)
                exact r_lv [0, 1, 2, 3] rfl (hj18 σ22)
          · refine r_aload_n hC dX10_seek_49 rfl 0 rfl ?_
            refine r_iload_n hC dX10_seek_50 rfl 1 rfl ?_
            refine r_iload_n hC dX10_seek_51 rfl 2 rfl ?_
            refine r_iconst (v := 1) hC dX10_seek_52 (by decide) ?_
            refine r_isub hC dX10_seek_53 ?_
            refine r_iload_n hC dX10_seek_54 rfl 3 rfl ?_
            refine r_callVV hC (b := 37) (ci := 10) (st := []) [.int a2, .int (a3 - 1), .int a4] rfl (hC.n rfl) rfl rfl (hr0 σ10 a2 (a3 - 1) a4) yk_X10_seek lm_X10_55 rfl ⟨Nat.ble_eq.mpr (by omega), Nat.ble_eq.mpr (by omega)⟩ rfl dX10_seek_55 (fun σ23 => ?_)
            exact r_vret hC hret dX10_seek_58
        · exact r_lv [0, 3] rfl hj4
  · exact r_vret hC hret dX10_seek_11
set_option maxHeartbeats 4000000 in
theorem c_GK {l : Launch} {w : Wd} (hW : HWd w shX rX 66) : ∀ d : Nat, (∀ (σ : St) (b1 : Int32) (b2 : Int32) (b3 : Int32) (res : St), f_GK d 0 σ b1 b2 b3 = some res → MtV l yX10_seek cX10_seek 4 (4 + d) (94 + 40 * d) w [.ref (wA w 37), .int b1, .int b2, .int b3] σ res) := by
  intro d
  induction d with
  | zero => exact fun σ b1 b2 b3 res h => (by rw [f_GK] at h; cases h)
  | succ d ih =>
    have i0 := ih
    exact fun σ b1 b2 b3 res h => cb_X10_seek hW d (f_GK d) i0 σ b1 b2 b3 res h
set_option maxHeartbeats 4000000 in
set_option maxRecDepth 100000 in
theorem c_X10_fewestGone {l : Launch} {w : Wd} (hW : HWd w shX rX 66) (σ : St) (a2 : Int32)  : ∀ res, f_X10_fewestGone σ a2 = some res → MtI l yX10_fewestGone cX10_fewestGone 2 .int 69 2677 w [.ref (wA w 37), .int a2] σ res := by
  refine mt_I (by decide) rfl hW (fun X hl0 hC hret => ?_)
  show RF X w (Aw w (xs_ X).heap.size) 2 (QI X w) (f_X10_fewestGone σ a2) 0 [(0, .ref (wA w 37)), (1, .int a2)] [] σ
  unfold f_X10_fewestGone
  refine r_aload_n hC dX10_fewestGone_0 rfl 0 rfl ?_
  refine r_bipush (v := 13) hC dX10_fewestGone_1 (by decide) ?_
  refine r_putI hC clX10 37 6 rfl rfl rfl (hC.n rfl) rfl rfl lf_X10_49 dX10_fewestGone_3 ?_
  refine r_nmS (fun σ1 => ?_)
  refine r_aload_n hC dX10_fewestGone_6 rfl 0 rfl ?_
  refine r_iconst (v := 0) hC dX10_fewestGone_7 (by decide) ?_
  refine r_putI hC clX10 37 7 rfl rfl rfl (hC.n rfl) rfl rfl lf_X10_52 dX10_fewestGone_8 ?_
  refine r_nmS (fun σ2 => ?_)
  refine r_aload_n hC dX10_fewestGone_11 rfl 0 rfl ?_
  refine r_getR hC clX10 37 5 42 rfl rfl rfl (hC.n rfl) rfl lf_X10_26 dX10_fewestGone_12 ?_
  refine r_bipush (v := 12) hC dX10_fewestGone_15 (by decide) ?_
  refine r_aald hC 42 13 55 rfl rfl (by decide) rfl dX10_fewestGone_17 ?_
  refine r_callSV hC (st := []) [.ref (wA w 55)] (c_X10_unbind hC.w σ2 55 rfl rfl) yk_X10_unbind lm_X10_33 rfl ⟨rfl, rfl⟩ rfl dX10_fewestGone_18 (fun σ3 => ?_)
  refine r_aload_n hC dX10_fewestGone_21 rfl 0 rfl ?_
  refine r_iload_n hC dX10_fewestGone_22 rfl 1 rfl ?_
  refine r_bipush (v := 11) hC dX10_fewestGone_23 (by decide) ?_
  refine r_iconst (v := 0) hC dX10_fewestGone_25 (by decide) ?_
  refine r_callVV hC (b := 37) (ci := 10) (st := []) [.int a2, .int 11, .int 0] rfl (hC.n rfl) rfl rfl ((c_GK hC.w 64) σ3 a2 11 0) yk_X10_seek lm_X10_55 rfl ⟨rfl, rfl⟩ rfl dX10_fewestGone_26 (fun σ4 => ?_)
  refine r_aload_n hC dX10_fewestGone_29 rfl 0 rfl ?_
  refine r_getI hC clX10 37 7 rfl rfl (hC.n rfl) rfl lf_X10_52 dX10_fewestGone_30 ?_
  refine r_nmI (fun v5 => ?_)
  exact r_iret hC hret rfl dX10_fewestGone_33
