theorem lf_X1_37 : Cond.fieldLink RX1 37 (TX1 2).1 (TX1 2).2.1 (TX1 2).2.2.1 ∈ gw := gw_t1 186 rfl rfl
theorem lf_X1_33 : Cond.fieldLink RX1 33 (TX1 1).1 (TX1 1).2.1 (TX1 1).2.2.1 ∈ gw := gw_t1 185 rfl rfl
theorem lf_X1_41 : Cond.fieldLink RX1 41 (TX0 0).1 (TX0 0).2.1 (TX0 0).2.2.1 ∈ gw := gw_t1 70 rfl rfl
theorem lf_X1_9 : Cond.fieldLink RX1 9 (TX1 3).1 (TX1 3).2.1 (TX1 3).2.2.1 ∈ gw := gw_t1 187 rfl rfl
theorem lm_X1_44 : Cond.methodLink RX1 44 arraycopyName ∈ gw := gw_t3 196 rfl rfl
theorem lf_X1_29 : Cond.fieldLink RX1 29 (TX1 0).1 (TX1 0).2.1 (TX1 0).2.2.1 ∈ gw := gw_t1 184 rfl rfl
theorem lf_X1_50 : Cond.fieldLink RX1 50 (TX2 2).1 (TX2 2).2.1 (TX2 2).2.2.1 ∈ gw := gw_t1 44 rfl rfl
theorem lf_X1_26 : Cond.fieldLink RX1 26 (TX1 9).1 (TX1 9).2.1 (TX1 9).2.2.1 ∈ gw := gw_t1 193 rfl rfl
theorem lm_X1_53 : Cond.methodLink RX1 53 yX0_weightOf ∈ gw := gw_t3 197 rfl rfl
theorem yk_X0_weightOf : YV yX0_weightOf cX0_weightOf 4 (some .int) 1 := ⟨gw_t3 200 rfl rfl, gw_t3 198 rfl rfl, gw_t3 199 rfl rfl, gw_t1 3 rfl rfl, by decide +kernel⟩
theorem lf_X1_57 : Cond.fieldLink RX1 57 (TX1 7).1 (TX1 7).2.1 (TX1 7).2.2.1 ∈ gw := gw_t1 191 rfl rfl
theorem lf_X1_61 : Cond.fieldLink RX1 61 (TX1 8).1 (TX1 8).2.1 (TX1 8).2.2.1 ∈ gw := gw_t1 192 rfl rfl
theorem lf_X1_64 : Cond.fieldLink RX1 64 (TX1 10).1 (TX1 10).2.1 (TX1 10).2.2.1 ∈ gw := gw_t1 195 rfl rfl
theorem lf_X1_67 : Cond.fieldLink RX1 67 (TX1 11).1 (TX1 11).2.1 (TX1 11).2.2.1 ∈ gw := gw_t1 197 rfl rfl
theorem lf_X1_71 : Cond.fieldLink RX1 71 (TX1 12).1 (TX1 12).2.1 (TX1 12).2.2.1 ∈ gw := gw_t1 199 rfl rfl
theorem lf_X1_74 : Cond.fieldLink RX1 74 (TX1 13).1 (TX1 13).2.1 (TX1 13).2.2.1 ∈ gw := gw_t1 201 rfl rfl
theorem lf_X1_77 : Cond.fieldLink RX1 77 (TX1 14).1 (TX1 14).2.1 (TX1 14).2.2.1 ∈ gw := gw_t1 203 rfl rfl
theorem lm_X1_80 : Cond.methodLink RX1 80 yX1_pullOnce ∈ gw := gw_t3 206 rfl rfl
theorem lm_X1_84 : Cond.methodLink RX1 84 yX1_waterNow ∈ gw := gw_t3 210 rfl rfl
theorem lm_X1_116 : Cond.methodLink RX1 116 yX1_nameAll ∈ gw := gw_t3 214 rfl rfl
theorem lm_X1_88 : Cond.methodLink RX1 88 yX2_has ∈ gw := gw_t3 218 rfl rfl
theorem lf_X1_20 : Cond.fieldLink RX1 20 (TX1 5).1 (TX1 5).2.1 (TX1 5).2.2.1 ∈ gw := gw_t1 189 rfl rfl
theorem lf_X1_142 : Cond.fieldLink RX1 142 (TX0 2).1 (TX0 2).2.1 (TX0 2).2.2.1 ∈ gw := gw_t1 77 rfl rfl
theorem lf_X1_145 : Cond.fieldLink RX1 145 (TX2 1).1 (TX2 1).2.1 (TX2 1).2.2.1 ∈ gw := gw_t1 42 rfl rfl
theorem yk_X1_nameAll : YV yX1_nameAll cX1_nameAll 4 none 2 := ⟨gw_t3 217 rfl rfl, gw_t3 216 rfl rfl, gw_s 15 rfl, gw_t1 8 rfl rfl, by decide +kernel⟩
theorem lc_X1_111 : Cond.constant RX1 111 99999 ∈ gw := gw_t3 227 rfl rfl
theorem lm_X1_99 : Cond.methodLink RX1 99 Lib.Math.min.name ∈ gw := gw_t3 228 rfl rfl
theorem lm_X1_124 : Cond.methodLink RX1 124 Lib.Math.max.name ∈ gw := gw_t3 229 rfl rfl
theorem lf_X1_127 : Cond.fieldLink RX1 127 (TX0 3).1 (TX0 3).2.1 (TX0 3).2.2.1 ∈ gw := gw_t1 80 rfl rfl
theorem lf_X1_130 : Cond.fieldLink RX1 130 (TX0 4).1 (TX0 4).2.1 (TX0 4).2.2.1 ∈ gw := gw_t1 83 rfl rfl
theorem lf_X1_23 : Cond.fieldLink RX1 23 (TX1 6).1 (TX1 6).2.1 (TX1 6).2.2.1 ∈ gw := gw_t1 190 rfl rfl
theorem lm_X1_120 : Cond.methodLink RX1 120 yX6_valueOf ∈ gw := gw_t3 219 rfl rfl
theorem yk_X6_valueOf : YV yX6_valueOf cX6_valueOf 10 (some .int) 3 := ⟨gw_t3 222 rfl rfl, gw_t3 220 rfl rfl, gw_t3 221 rfl rfl, gw_t1 6 rfl rfl, by decide +kernel⟩
theorem yk_X1_waterNow : YV yX1_waterNow cX1_waterNow 2 (some .int) 0 := ⟨gw_t3 213 rfl rfl, gw_t3 212 rfl rfl, gw_s 14 rfl, gw_t1 8 rfl rfl, by decide +kernel⟩
theorem lf_X1_15 : Cond.fieldLink RX1 15 (TX1 4).1 (TX1 4).2.1 (TX1 4).2.2.1 ∈ gw := gw_t1 188 rfl rfl
theorem lf_X1_96 : Cond.fieldLink RX1 96 (TX0 1).1 (TX0 1).2.1 (TX0 1).2.2.1 ∈ gw := gw_t1 74 rfl rfl
theorem lm_X1_92 : Cond.methodLink RX1 92 yX1_driveOf ∈ gw := gw_t3 230 rfl rfl
theorem lm_X1_133 : Cond.methodLink RX1 133 yX3_cost ∈ gw := gw_t3 234 rfl rfl
theorem yk_X3_cost : YS yX3_cost cX3_cost 2 (some .int) 2 := ⟨gw_t2 173 rfl rfl, gw_t2 172 rfl rfl, gw_t1 13 rfl rfl, by decide +kernel⟩
theorem lf_X1_136 : Cond.fieldLink RX1 136 (TX2 3).1 (TX2 3).2.1 (TX2 3).2.2.1 ∈ gw := gw_t1 48 rfl rfl
theorem lm_X1_139 : Cond.methodLink RX1 139 yX3_pull ∈ gw := gw_t3 235 rfl rfl
theorem yk_X3_pull : YS yX3_pull cX3_pull 3 (some .int) 3 := ⟨gw_t2 164 rfl rfl, gw_t2 163 rfl rfl, gw_t1 13 rfl rfl, by decide +kernel⟩
theorem yk_X1_driveOf : YV yX1_driveOf cX1_driveOf 6 (some .int) 3 := ⟨gw_t3 233 rfl rfl, gw_t3 232 rfl rfl, gw_s 16 rfl, gw_t1 8 rfl rfl, by decide +kernel⟩
theorem lm_X1_105 : Cond.methodLink RX1 105 yX3_slips ∈ gw := gw_t3 236 rfl rfl
theorem yk_X3_slips : YS yX3_slips cX3_slips 1 (some .int) 1 := ⟨gw_t2 176 rfl rfl, gw_t2 175 rfl rfl, gw_t1 13 rfl rfl, by decide +kernel⟩
theorem yk_X1_pullOnce : YV yX1_pullOnce cX1_pullOnce 7 none 1 := ⟨gw_t3 209 rfl rfl, gw_t3 207 rfl rfl, gw_t3 208 rfl rfl, gw_t1 8 rfl rfl, by decide +kernel⟩
theorem lm_X1_112 : Cond.methodLink RX1 112 Lib.MathLoose.abs_long.x ∈ gw := gw_t4 40 rfl rfl
theorem ws_mabsL : Cond.static Lib.MathLoose.abs_long.x ∈ gw := gw_t4 28 rfl rfl
theorem wc_mabsL : Cond.code Lib.MathLoose.abs_long.x Lib.MathLoose.abs_long.code 2 (some .long) ∈ gw := gw_t4 29 rfl rfl
theorem dX1_begin_0 : decode cX1_begin 0 = .ok (.aload_n 0, 1) := by decide +kernel
theorem dX1_begin_1 : decode cX1_begin 1 = .ok (.aload_n 1, 1) := by decide +kernel
theorem dX1_begin_2 : decode cX1_begin 2 = .ok (.putfield 37, 3) := by decide +kernel
theorem dX1_begin_5 : decode cX1_begin 5 = .ok (.aload_n 0, 1) := by decide +kernel
theorem dX1_begin_6 : decode cX1_begin 6 = .ok (.getfield 33, 3) := by decide +kernel
theorem dX1_begin_9 : decode cX1_begin 9 = .ok (.getfield 41, 3) := by decide +kernel
theorem dX1_begin_12 : decode cX1_begin 12 = .ok (.iconst 0, 1) := by decide +kernel
theorem dX1_begin_13 : decode cX1_begin 13 = .ok (.aload_n 0, 1) := by decide +kernel
theorem dX1_begin_14 : decode cX1_begin 14 = .ok (.getfield 9, 3) := by decide +kernel
theorem dX1_begin_17 : decode cX1_begin 17 = .ok (.iconst 0, 1) := by decide +kernel
theorem dX1_begin_18 : decode cX1_begin 18 = .ok (.bipush 8, 2) := by decide +kernel
theorem dX1_begin_20 : decode cX1_begin 20 = .ok (.invokestatic 44, 3) := by decide +kernel
theorem dX1_begin_23 : decode cX1_begin 23 = .ok (.aload_n 0, 1) := by decide +kernel
theorem dX1_begin_24 : decode cX1_begin 24 = .ok (.getfield 29, 3) := by decide +kernel
theorem dX1_begin_27 : decode cX1_begin 27 = .ok (.getfield 50, 3) := by decide +kernel
theorem dX1_begin_30 : decode cX1_begin 30 = .ok (.iconst 0, 1) := by decide +kernel
theorem dX1_begin_31 : decode cX1_begin 31 = .ok (.aload_n 0, 1) := by decide +kernel
theorem dX1_begin_32 : decode cX1_begin 32 = .ok (.getfield 26, 3) := by decide +kernel
theorem dX1_begin_35 : decode cX1_begin 35 = .ok (.iconst 0, 1) := by decide +kernel
theorem dX1_begin_36 : decode cX1_begin 36 = .ok (.bipush 16, 2) := by decide +kernel
theorem dX1_begin_38 : decode cX1_begin 38 = .ok (.invokestatic 44, 3) := by decide +kernel
theorem dX1_begin_41 : decode cX1_begin 41 = .ok (.aload_n 0, 1) := by decide +kernel
theorem dX1_begin_42 : decode cX1_begin 42 = .ok (.aload_n 0, 1) := by decide +kernel
theorem dX1_begin_43 : decode cX1_begin 43 = .ok (.getfield 33, 3) := by decide +kernel
theorem dX1_begin_46 : decode cX1_begin 46 = .ok (.aload_n 0, 1) := by decide +kernel
theorem dX1_begin_47 : decode cX1_begin 47 = .ok (.getfield 29, 3) := by decide +kernel
theorem dX1_begin_50 : decode cX1_begin 50 = .ok (.invokevirtual 53, 3) := by decide +kernel
theorem dX1_begin_53 : decode cX1_begin 53 = .ok (.sipush 200, 3) := by decide +kernel
theorem dX1_begin_56 : decode cX1_begin 56 = .ok (.iadd, 1) := by decide +kernel
theorem dX1_begin_57 : decode cX1_begin 57 = .ok (.putfield 57, 3) := by decide +kernel
theorem dX1_begin_60 : decode cX1_begin 60 = .ok (.aload_n 0, 1) := by decide +kernel
theorem dX1_begin_61 : decode cX1_begin 61 = .ok (.iconst 0, 1) := by decide +kernel
theorem dX1_begin_62 : decode cX1_begin 62 = .ok (.putfield 61, 3) := by decide +kernel
theorem dX1_begin_65 : decode cX1_begin 65 = .ok (.aload_n 0, 1) := by decide +kernel
theorem dX1_begin_66 : decode cX1_begin 66 = .ok (.iconst 0, 1) := by decide +kernel
theorem dX1_begin_67 : decode cX1_begin 67 = .ok (.putfield 64, 3) := by decide +kernel
theorem dX1_begin_70 : decode cX1_begin 70 = .ok (.aload_n 0, 1) := by decide +kernel
theorem dX1_begin_71 : decode cX1_begin 71 = .ok (.lconst 0, 1) := by decide +kernel
theorem dX1_begin_72 : decode cX1_begin 72 = .ok (.putfield 67, 3) := by decide +kernel
theorem dX1_begin_75 : decode cX1_begin 75 = .ok (.aload_n 0, 1) := by decide +kernel
theorem dX1_begin_76 : decode cX1_begin 76 = .ok (.lconst 0, 1) := by decide +kernel
theorem dX1_begin_77 : decode cX1_begin 77 = .ok (.putfield 71, 3) := by decide +kernel
theorem dX1_begin_80 : decode cX1_begin 80 = .ok (.aload_n 0, 1) := by decide +kernel
theorem dX1_begin_81 : decode cX1_begin 81 = .ok (.lconst 0, 1) := by decide +kernel
theorem dX1_begin_82 : decode cX1_begin 82 = .ok (.putfield 74, 3) := by decide +kernel
theorem dX1_begin_85 : decode cX1_begin 85 = .ok (.aload_n 0, 1) := by decide +kernel
theorem dX1_begin_86 : decode cX1_begin 86 = .ok (.lconst 0, 1) := by decide +kernel
theorem dX1_begin_87 : decode cX1_begin 87 = .ok (.putfield 77, 3) := by decide +kernel
theorem dX1_begin_90 : decode cX1_begin 90 = .ok (.return_, 1) := by decide +kernel
theorem dX1_changeSeats_0 : decode cX1_changeSeats 0 = .ok (.aload_n 0, 1) := by decide +kernel
theorem dX1_changeSeats_1 : decode cX1_changeSeats 1 = .ok (.getfield 9, 3) := by decide +kernel
theorem dX1_changeSeats_4 : decode cX1_changeSeats 4 = .ok (.iload_n 1, 1) := by decide +kernel
theorem dX1_changeSeats_5 : decode cX1_changeSeats 5 = .ok (.iaload, 1) := by decide +kernel
theorem dX1_changeSeats_6 : decode cX1_changeSeats 6 = .ok (.istore_n 3, 1) := by decide +kernel
theorem dX1_changeSeats_7 : decode cX1_changeSeats 7 = .ok (.aload_n 0, 1) := by decide +kernel
theorem dX1_changeSeats_8 : decode cX1_changeSeats 8 = .ok (.getfield 9, 3) := by decide +kernel
theorem dX1_changeSeats_11 : decode cX1_changeSeats 11 = .ok (.iload_n 1, 1) := by decide +kernel
theorem dX1_changeSeats_12 : decode cX1_changeSeats 12 = .ok (.aload_n 0, 1) := by decide +kernel
theorem dX1_changeSeats_13 : decode cX1_changeSeats 13 = .ok (.getfield 9, 3) := by decide +kernel
theorem dX1_changeSeats_16 : decode cX1_changeSeats 16 = .ok (.iload_n 2, 1) := by decide +kernel
theorem dX1_changeSeats_17 : decode cX1_changeSeats 17 = .ok (.iaload, 1) := by decide +kernel
theorem dX1_changeSeats_18 : decode cX1_changeSeats 18 = .ok (.iastore, 1) := by decide +kernel
theorem dX1_changeSeats_19 : decode cX1_changeSeats 19 = .ok (.aload_n 0, 1) := by decide +kernel
theorem dX1_changeSeats_20 : decode cX1_changeSeats 20 = .ok (.getfield 9, 3) := by decide +kernel
theorem dX1_changeSeats_23 : decode cX1_changeSeats 23 = .ok (.iload_n 2, 1) := by decide +kernel
theorem dX1_changeSeats_24 : decode cX1_changeSeats 24 = .ok (.iload_n 3, 1) := by decide +kernel
theorem dX1_changeSeats_25 : decode cX1_changeSeats 25 = .ok (.iastore, 1) := by decide +kernel
theorem dX1_changeSeats_26 : decode cX1_changeSeats 26 = .ok (.return_, 1) := by decide +kernel
theorem dX1_nameAll_0 : decode cX1_nameAll 0 = .ok (.aload_n 0, 1) := by decide +kernel
theorem dX1_nameAll_1 : decode cX1_nameAll 1 = .ok (.getfield 29, 3) := by decide +kernel
theorem dX1_nameAll_4 : decode cX1_nameAll 4 = .ok (.iload_n 2, 1) := by decide +kernel
theorem dX1_nameAll_5 : decode cX1_nameAll 5 = .ok (.invokevirtual 88, 3) := by decide +kernel
theorem dX1_nameAll_8 : decode cX1_nameAll 8 = .ok (.istore_n 3, 1) := by decide +kernel
theorem dX1_nameAll_9 : decode cX1_nameAll 9 = .ok (.aload_n 0, 1) := by decide +kernel
theorem dX1_nameAll_10 : decode cX1_nameAll 10 = .ok (.getfield 20, 3) := by decide +kernel
theorem dX1_nameAll_13 : decode cX1_nameAll 13 = .ok (.iconst 0, 1) := by decide +kernel
theorem dX1_nameAll_14 : decode cX1_nameAll 14 = .ok (.iload_n 3, 1) := by decide +kernel
theorem dX1_nameAll_15 : decode cX1_nameAll 15 = .ok (.ifCond .eq 15, 3) := by decide +kernel
theorem dX1_nameAll_18 : decode cX1_nameAll 18 = .ok (.aload_n 0, 1) := by decide +kernel
theorem dX1_nameAll_19 : decode cX1_nameAll 19 = .ok (.getfield 29, 3) := by decide +kernel
theorem dX1_nameAll_22 : decode cX1_nameAll 22 = .ok (.getfield 145, 3) := by decide +kernel
theorem dX1_nameAll_25 : decode cX1_nameAll 25 = .ok (.iload_n 2, 1) := by decide +kernel
theorem dX1_nameAll_26 : decode cX1_nameAll 26 = .ok (.iaload, 1) := by decide +kernel
theorem dX1_nameAll_27 : decode cX1_nameAll 27 = .ok (.goto 4, 3) := by decide +kernel
theorem dX1_nameAll_30 : decode cX1_nameAll 30 = .ok (.iconst 0, 1) := by decide +kernel
theorem dX1_nameAll_31 : decode cX1_nameAll 31 = .ok (.iastore, 1) := by decide +kernel
theorem dX1_nameAll_32 : decode cX1_nameAll 32 = .ok (.aload_n 0, 1) := by decide +kernel
theorem dX1_nameAll_33 : decode cX1_nameAll 33 = .ok (.getfield 20, 3) := by decide +kernel
theorem dX1_nameAll_36 : decode cX1_nameAll 36 = .ok (.iconst 1, 1) := by decide +kernel
theorem dX1_nameAll_37 : decode cX1_nameAll 37 = .ok (.iload_n 3, 1) := by decide +kernel
theorem dX1_nameAll_38 : decode cX1_nameAll 38 = .ok (.ifCond .eq 12, 3) := by decide +kernel
theorem dX1_nameAll_41 : decode cX1_nameAll 41 = .ok (.aload_n 0, 1) := by decide +kernel
theorem dX1_nameAll_42 : decode cX1_nameAll 42 = .ok (.getfield 26, 3) := by decide +kernel
theorem dX1_nameAll_45 : decode cX1_nameAll 45 = .ok (.iload_n 2, 1) := by decide +kernel
theorem dX1_nameAll_46 : decode cX1_nameAll 46 = .ok (.iaload, 1) := by decide +kernel
theorem dX1_nameAll_47 : decode cX1_nameAll 47 = .ok (.goto 4, 3) := by decide +kernel
theorem dX1_nameAll_50 : decode cX1_nameAll 50 = .ok (.iconst 0, 1) := by decide +kernel
theorem dX1_nameAll_51 : decode cX1_nameAll 51 = .ok (.iastore, 1) := by decide +kernel
theorem dX1_nameAll_52 : decode cX1_nameAll 52 = .ok (.aload_n 0, 1) := by decide +kernel
theorem dX1_nameAll_53 : decode cX1_nameAll 53 = .ok (.getfield 20, 3) := by decide +kernel
theorem dX1_nameAll_56 : decode cX1_nameAll 56 = .ok (.iconst 2, 1) := by decide +kernel
theorem dX1_nameAll_57 : decode cX1_nameAll 57 = .ok (.iload_n 1, 1) := by decide +kernel
theorem dX1_nameAll_58 : decode cX1_nameAll 58 = .ok (.iastore, 1) := by decide +kernel
theorem dX1_nameAll_59 : decode cX1_nameAll 59 = .ok (.aload_n 0, 1) := by decide +kernel
theorem dX1_nameAll_60 : decode cX1_nameAll 60 = .ok (.getfield 20, 3) := by decide +kernel
theorem dX1_nameAll_63 : decode cX1_nameAll 63 = .ok (.iconst 3, 1) := by decide +kernel
theorem dX1_nameAll_64 : decode cX1_nameAll 64 = .ok (.aload_n 0, 1) := by decide +kernel
theorem dX1_nameAll_65 : decode cX1_nameAll 65 = .ok (.getfield 33, 3) := by decide +kernel
theorem dX1_nameAll_68 : decode cX1_nameAll 68 = .ok (.getfield 142, 3) := by decide +kernel
theorem dX1_nameAll_71 : decode cX1_nameAll 71 = .ok (.iload_n 1, 1) := by decide +kernel
theorem dX1_nameAll_72 : decode cX1_nameAll 72 = .ok (.iaload, 1) := by decide +kernel
theorem dX1_nameAll_73 : decode cX1_nameAll 73 = .ok (.iastore, 1) := by decide +kernel
theorem dX1_nameAll_74 : decode cX1_nameAll 74 = .ok (.aload_n 0, 1) := by decide +kernel
theorem dX1_nameAll_75 : decode cX1_nameAll 75 = .ok (.getfield 20, 3) := by decide +kernel
theorem dX1_nameAll_78 : decode cX1_nameAll 78 = .ok (.iconst 4, 1) := by decide +kernel
theorem dX1_nameAll_79 : decode cX1_nameAll 79 = .ok (.aload_n 0, 1) := by decide +kernel
theorem dX1_nameAll_80 : decode cX1_nameAll 80 = .ok (.getfield 64, 3) := by decide +kernel
theorem dX1_nameAll_83 : decode cX1_nameAll 83 = .ok (.iastore, 1) := by decide +kernel
theorem dX1_nameAll_84 : decode cX1_nameAll 84 = .ok (.aload_n 0, 1) := by decide +kernel
theorem dX1_nameAll_85 : decode cX1_nameAll 85 = .ok (.getfield 20, 3) := by decide +kernel
theorem dX1_nameAll_88 : decode cX1_nameAll 88 = .ok (.iconst 5, 1) := by decide +kernel
theorem dX1_nameAll_89 : decode cX1_nameAll 89 = .ok (.aload_n 0, 1) := by decide +kernel
theorem dX1_nameAll_90 : decode cX1_nameAll 90 = .ok (.getfield 61, 3) := by decide +kernel
theorem dX1_nameAll_93 : decode cX1_nameAll 93 = .ok (.iastore, 1) := by decide +kernel
theorem dX1_nameAll_94 : decode cX1_nameAll 94 = .ok (.return_, 1) := by decide +kernel
theorem dX1_waterNow_0 : decode cX1_waterNow 0 = .ok (.aload_n 0, 1) := by decide +kernel
theorem dX1_waterNow_1 : decode cX1_waterNow 1 = .ok (.iconst 0, 1) := by decide +kernel
theorem dX1_waterNow_2 : decode cX1_waterNow 2 = .ok (.aload_n 0, 1) := by decide +kernel
theorem dX1_waterNow_3 : decode cX1_waterNow 3 = .ok (.getfield 9, 3) := by decide +kernel
theorem dX1_waterNow_6 : decode cX1_waterNow 6 = .ok (.iconst 0, 1) := by decide +kernel
theorem dX1_waterNow_7 : decode cX1_waterNow 7 = .ok (.iaload, 1) := by decide +kernel
theorem dX1_waterNow_8 : decode cX1_waterNow 8 = .ok (.invokevirtual 116, 3) := by decide +kernel
theorem dX1_waterNow_11 : decode cX1_waterNow 11 = .ok (.aload_n 0, 1) := by decide +kernel
theorem dX1_waterNow_12 : decode cX1_waterNow 12 = .ok (.getfield 37, 3) := by decide +kernel
theorem dX1_waterNow_15 : decode cX1_waterNow 15 = .ok (.ifnonnull 7, 3) := by decide +kernel
theorem dX1_waterNow_18 : decode cX1_waterNow 18 = .ok (.iconst 0, 1) := by decide +kernel
theorem dX1_waterNow_19 : decode cX1_waterNow 19 = .ok (.goto 19, 3) := by decide +kernel
theorem dX1_waterNow_22 : decode cX1_waterNow 22 = .ok (.aload_n 0, 1) := by decide +kernel
theorem dX1_waterNow_23 : decode cX1_waterNow 23 = .ok (.getfield 37, 3) := by decide +kernel
theorem dX1_waterNow_26 : decode cX1_waterNow 26 = .ok (.iconst 0, 1) := by decide +kernel
theorem dX1_waterNow_27 : decode cX1_waterNow 27 = .ok (.aload_n 0, 1) := by decide +kernel
theorem dX1_waterNow_28 : decode cX1_waterNow 28 = .ok (.getfield 20, 3) := by decide +kernel
theorem dX1_waterNow_31 : decode cX1_waterNow 31 = .ok (.aload_n 0, 1) := by decide +kernel
theorem dX1_waterNow_32 : decode cX1_waterNow 32 = .ok (.getfield 23, 3) := by decide +kernel
theorem dX1_waterNow_35 : decode cX1_waterNow 35 = .ok (.invokevirtual 120, 3) := by decide +kernel
theorem dX1_waterNow_38 : decode cX1_waterNow 38 = .ok (.istore_n 1, 1) := by decide +kernel
theorem dX1_waterNow_39 : decode cX1_waterNow 39 = .ok (.iconst 0, 1) := by decide +kernel
theorem dX1_waterNow_40 : decode cX1_waterNow 40 = .ok (.ldc 111, 2) := by decide +kernel
theorem dX1_waterNow_42 : decode cX1_waterNow 42 = .ok (.iload_n 1, 1) := by decide +kernel
theorem dX1_waterNow_43 : decode cX1_waterNow 43 = .ok (.invokestatic 99, 3) := by decide +kernel
theorem dX1_waterNow_46 : decode cX1_waterNow 46 = .ok (.invokestatic 124, 3) := by decide +kernel
theorem dX1_waterNow_49 : decode cX1_waterNow 49 = .ok (.istore_n 1, 1) := by decide +kernel
theorem dX1_waterNow_50 : decode cX1_waterNow 50 = .ok (.iconst 0, 1) := by decide +kernel
theorem dX1_waterNow_51 : decode cX1_waterNow 51 = .ok (.iload_n 1, 1) := by decide +kernel
theorem dX1_waterNow_52 : decode cX1_waterNow 52 = .ok (.aload_n 0, 1) := by decide +kernel
theorem dX1_waterNow_53 : decode cX1_waterNow 53 = .ok (.getfield 33, 3) := by decide +kernel
theorem dX1_waterNow_56 : decode cX1_waterNow 56 = .ok (.getfield 127, 3) := by decide +kernel
theorem dX1_waterNow_59 : decode cX1_waterNow 59 = .ok (.imul, 1) := by decide +kernel
theorem dX1_waterNow_60 : decode cX1_waterNow 60 = .ok (.bipush 100, 2) := by decide +kernel
theorem dX1_waterNow_62 : decode cX1_waterNow 62 = .ok (.idiv, 1) := by decide +kernel
theorem dX1_waterNow_63 : decode cX1_waterNow 63 = .ok (.aload_n 0, 1) := by decide +kernel
theorem dX1_waterNow_64 : decode cX1_waterNow 64 = .ok (.getfield 33, 3) := by decide +kernel
theorem dX1_waterNow_67 : decode cX1_waterNow 67 = .ok (.getfield 130, 3) := by decide +kernel
theorem dX1_waterNow_70 : decode cX1_waterNow 70 = .ok (.iadd, 1) := by decide +kernel
theorem dX1_waterNow_71 : decode cX1_waterNow 71 = .ok (.invokestatic 124, 3) := by decide +kernel
theorem dX1_waterNow_74 : decode cX1_waterNow 74 = .ok (.ireturn, 1) := by decide +kernel
theorem dX1_driveOf_0 : decode cX1_driveOf 0 = .ok (.aload_n 0, 1) := by decide +kernel
theorem dX1_driveOf_1 : decode cX1_driveOf 1 = .ok (.iload_n 1, 1) := by decide +kernel
theorem dX1_driveOf_2 : decode cX1_driveOf 2 = .ok (.iload_n 2, 1) := by decide +kernel
theorem dX1_driveOf_3 : decode cX1_driveOf 3 = .ok (.invokevirtual 116, 3) := by decide +kernel
theorem dX1_driveOf_6 : decode cX1_driveOf 6 = .ok (.aload_n 0, 1) := by decide +kernel
theorem dX1_driveOf_7 : decode cX1_driveOf 7 = .ok (.getfield 37, 3) := by decide +kernel
theorem dX1_driveOf_10 : decode cX1_driveOf 10 = .ok (.ifnonnull 7, 3) := by decide +kernel
theorem dX1_driveOf_13 : decode cX1_driveOf 13 = .ok (.iconst 0, 1) := by decide +kernel
theorem dX1_driveOf_14 : decode cX1_driveOf 14 = .ok (.goto 19, 3) := by decide +kernel
theorem dX1_driveOf_17 : decode cX1_driveOf 17 = .ok (.aload_n 0, 1) := by decide +kernel
theorem dX1_driveOf_18 : decode cX1_driveOf 18 = .ok (.getfield 37, 3) := by decide +kernel
theorem dX1_driveOf_21 : decode cX1_driveOf 21 = .ok (.iconst 1, 1) := by decide +kernel
theorem dX1_driveOf_22 : decode cX1_driveOf 22 = .ok (.aload_n 0, 1) := by decide +kernel
theorem dX1_driveOf_23 : decode cX1_driveOf 23 = .ok (.getfield 20, 3) := by decide +kernel
theorem dX1_driveOf_26 : decode cX1_driveOf 26 = .ok (.aload_n 0, 1) := by decide +kernel
theorem dX1_driveOf_27 : decode cX1_driveOf 27 = .ok (.getfield 23, 3) := by decide +kernel
theorem dX1_driveOf_30 : decode cX1_driveOf 30 = .ok (.invokevirtual 120, 3) := by decide +kernel
theorem dX1_driveOf_33 : decode cX1_driveOf 33 = .ok (.istore 4, 2) := by decide +kernel
theorem dX1_driveOf_35 : decode cX1_driveOf 35 = .ok (.iconst 0, 1) := by decide +kernel
theorem dX1_driveOf_36 : decode cX1_driveOf 36 = .ok (.sipush 999, 3) := by decide +kernel
theorem dX1_driveOf_39 : decode cX1_driveOf 39 = .ok (.iload 4, 2) := by decide +kernel
theorem dX1_driveOf_41 : decode cX1_driveOf 41 = .ok (.invokestatic 99, 3) := by decide +kernel
theorem dX1_driveOf_44 : decode cX1_driveOf 44 = .ok (.invokestatic 124, 3) := by decide +kernel
theorem dX1_driveOf_47 : decode cX1_driveOf 47 = .ok (.istore 4, 2) := by decide +kernel
theorem dX1_driveOf_49 : decode cX1_driveOf 49 = .ok (.aload_n 0, 1) := by decide +kernel
theorem dX1_driveOf_50 : decode cX1_driveOf 50 = .ok (.getfield 26, 3) := by decide +kernel
theorem dX1_driveOf_53 : decode cX1_driveOf 53 = .ok (.iload_n 2, 1) := by decide +kernel
theorem dX1_driveOf_54 : decode cX1_driveOf 54 = .ok (.iaload, 1) := by decide +kernel
theorem dX1_driveOf_55 : decode cX1_driveOf 55 = .ok (.ifCond .ne 9, 3) := by decide +kernel
theorem dX1_driveOf_58 : decode cX1_driveOf 58 = .ok (.iload 4, 2) := by decide +kernel
theorem dX1_driveOf_60 : decode cX1_driveOf 60 = .ok (.iconst 2, 1) := by decide +kernel
theorem dX1_driveOf_61 : decode cX1_driveOf 61 = .ok (.idiv, 1) := by decide +kernel
theorem dX1_driveOf_62 : decode cX1_driveOf 62 = .ok (.istore 4, 2) := by decide +kernel
theorem dX1_driveOf_64 : decode cX1_driveOf 64 = .ok (.iconst 0, 1) := by decide +kernel
theorem dX1_driveOf_65 : decode cX1_driveOf 65 = .ok (.aload_n 0, 1) := by decide +kernel
theorem dX1_driveOf_66 : decode cX1_driveOf 66 = .ok (.getfield 26, 3) := by decide +kernel
theorem dX1_driveOf_69 : decode cX1_driveOf 69 = .ok (.iload_n 2, 1) := by decide +kernel
theorem dX1_driveOf_70 : decode cX1_driveOf 70 = .ok (.iaload, 1) := by decide +kernel
theorem dX1_driveOf_71 : decode cX1_driveOf 71 = .ok (.iload_n 3, 1) := by decide +kernel
theorem dX1_driveOf_72 : decode cX1_driveOf 72 = .ok (.iload 4, 2) := by decide +kernel
theorem dX1_driveOf_74 : decode cX1_driveOf 74 = .ok (.invokestatic 133, 3) := by decide +kernel
theorem dX1_driveOf_77 : decode cX1_driveOf 77 = .ok (.isub, 1) := by decide +kernel
theorem dX1_driveOf_78 : decode cX1_driveOf 78 = .ok (.invokestatic 124, 3) := by decide +kernel
theorem dX1_driveOf_81 : decode cX1_driveOf 81 = .ok (.istore 5, 2) := by decide +kernel
theorem dX1_driveOf_83 : decode cX1_driveOf 83 = .ok (.aload_n 0, 1) := by decide +kernel
theorem dX1_driveOf_84 : decode cX1_driveOf 84 = .ok (.getfield 26, 3) := by decide +kernel
theorem dX1_driveOf_87 : decode cX1_driveOf 87 = .ok (.iload_n 2, 1) := by decide +kernel
theorem dX1_driveOf_88 : decode cX1_driveOf 88 = .ok (.sipush 9999, 3) := by decide +kernel
theorem dX1_driveOf_91 : decode cX1_driveOf 91 = .ok (.iload 5, 2) := by decide +kernel
theorem dX1_driveOf_93 : decode cX1_driveOf 93 = .ok (.aload_n 0, 1) := by decide +kernel
theorem dX1_driveOf_94 : decode cX1_driveOf 94 = .ok (.getfield 29, 3) := by decide +kernel
theorem dX1_driveOf_97 : decode cX1_driveOf 97 = .ok (.getfield 136, 3) := by decide +kernel
theorem dX1_driveOf_100 : decode cX1_driveOf 100 = .ok (.iload_n 2, 1) := by decide +kernel
theorem dX1_driveOf_101 : decode cX1_driveOf 101 = .ok (.iaload, 1) := by decide +kernel
theorem dX1_driveOf_102 : decode cX1_driveOf 102 = .ok (.iadd, 1) := by decide +kernel
theorem dX1_driveOf_103 : decode cX1_driveOf 103 = .ok (.invokestatic 99, 3) := by decide +kernel
theorem dX1_driveOf_106 : decode cX1_driveOf 106 = .ok (.iastore, 1) := by decide +kernel
theorem dX1_driveOf_107 : decode cX1_driveOf 107 = .ok (.iload_n 3, 1) := by decide +kernel
theorem dX1_driveOf_108 : decode cX1_driveOf 108 = .ok (.iload 4, 2) := by decide +kernel
theorem dX1_driveOf_110 : decode cX1_driveOf 110 = .ok (.iload_n 1, 1) := by decide +kernel
theorem dX1_driveOf_111 : decode cX1_driveOf 111 = .ok (.invokestatic 139, 3) := by decide +kernel
theorem dX1_driveOf_114 : decode cX1_driveOf 114 = .ok (.aload_n 0, 1) := by decide +kernel
theorem dX1_driveOf_115 : decode cX1_driveOf 115 = .ok (.getfield 33, 3) := by decide +kernel
theorem dX1_driveOf_118 : decode cX1_driveOf 118 = .ok (.getfield 142, 3) := by decide +kernel
theorem dX1_driveOf_121 : decode cX1_driveOf 121 = .ok (.iload_n 1, 1) := by decide +kernel
theorem dX1_driveOf_122 : decode cX1_driveOf 122 = .ok (.iaload, 1) := by decide +kernel
theorem dX1_driveOf_123 : decode cX1_driveOf 123 = .ok (.imul, 1) := by decide +kernel
theorem dX1_driveOf_124 : decode cX1_driveOf 124 = .ok (.iconst 4, 1) := by decide +kernel
theorem dX1_driveOf_125 : decode cX1_driveOf 125 = .ok (.idiv, 1) := by decide +kernel
theorem dX1_driveOf_126 : decode cX1_driveOf 126 = .ok (.ireturn, 1) := by decide +kernel
theorem dX1_pullOnce_0 : decode cX1_pullOnce 0 = .ok (.aload_n 0, 1) := by decide +kernel
theorem dX1_pullOnce_1 : decode cX1_pullOnce 1 = .ok (.invokevirtual 84, 3) := by decide +kernel
theorem dX1_pullOnce_4 : decode cX1_pullOnce 4 = .ok (.istore_n 2, 1) := by decide +kernel
theorem dX1_pullOnce_5 : decode cX1_pullOnce 5 = .ok (.iconst 0, 1) := by decide +kernel
theorem dX1_pullOnce_6 : decode cX1_pullOnce 6 = .ok (.istore_n 3, 1) := by decide +kernel
theorem dX1_pullOnce_7 : decode cX1_pullOnce 7 = .ok (.iconst 0, 1) := by decide +kernel
theorem dX1_pullOnce_8 : decode cX1_pullOnce 8 = .ok (.istore 4, 2) := by decide +kernel
theorem dX1_pullOnce_10 : decode cX1_pullOnce 10 = .ok (.iload 4, 2) := by decide +kernel
theorem dX1_pullOnce_12 : decode cX1_pullOnce 12 = .ok (.bipush 8, 2) := by decide +kernel
theorem dX1_pullOnce_14 : decode cX1_pullOnce 14 = .ok (.if_icmp .ge 107, 3) := by decide +kernel
theorem dX1_pullOnce_17 : decode cX1_pullOnce 17 = .ok (.aload_n 0, 1) := by decide +kernel
theorem dX1_pullOnce_18 : decode cX1_pullOnce 18 = .ok (.getfield 15, 3) := by decide +kernel
theorem dX1_pullOnce_21 : decode cX1_pullOnce 21 = .ok (.iload 4, 2) := by decide +kernel
theorem dX1_pullOnce_23 : decode cX1_pullOnce 23 = .ok (.aload_n 0, 1) := by decide +kernel
theorem dX1_pullOnce_24 : decode cX1_pullOnce 24 = .ok (.getfield 29, 3) := by decide +kernel
theorem dX1_pullOnce_27 : decode cX1_pullOnce 27 = .ok (.aload_n 0, 1) := by decide +kernel
theorem dX1_pullOnce_28 : decode cX1_pullOnce 28 = .ok (.getfield 9, 3) := by decide +kernel
theorem dX1_pullOnce_31 : decode cX1_pullOnce 31 = .ok (.iload 4, 2) := by decide +kernel
theorem dX1_pullOnce_33 : decode cX1_pullOnce 33 = .ok (.iaload, 1) := by decide +kernel
theorem dX1_pullOnce_34 : decode cX1_pullOnce 34 = .ok (.invokevirtual 88, 3) := by decide +kernel
theorem dX1_pullOnce_37 : decode cX1_pullOnce 37 = .ok (.ifCond .eq 20, 3) := by decide +kernel
theorem dX1_pullOnce_40 : decode cX1_pullOnce 40 = .ok (.aload_n 0, 1) := by decide +kernel
theorem dX1_pullOnce_41 : decode cX1_pullOnce 41 = .ok (.iload 4, 2) := by decide +kernel
theorem dX1_pullOnce_43 : decode cX1_pullOnce 43 = .ok (.aload_n 0, 1) := by decide +kernel
theorem dX1_pullOnce_44 : decode cX1_pullOnce 44 = .ok (.getfield 9, 3) := by decide +kernel
theorem dX1_pullOnce_47 : decode cX1_pullOnce 47 = .ok (.iload 4, 2) := by decide +kernel
theorem dX1_pullOnce_49 : decode cX1_pullOnce 49 = .ok (.iaload, 1) := by decide +kernel
theorem dX1_pullOnce_50 : decode cX1_pullOnce 50 = .ok (.iload_n 1, 1) := by decide +kernel
theorem dX1_pullOnce_51 : decode cX1_pullOnce 51 = .ok (.invokevirtual 92, 3) := by decide +kernel
theorem dX1_pullOnce_54 : decode cX1_pullOnce 54 = .ok (.goto 4, 3) := by decide +kernel
theorem dX1_pullOnce_57 : decode cX1_pullOnce 57 = .ok (.iconst 0, 1) := by decide +kernel
theorem dX1_pullOnce_58 : decode cX1_pullOnce 58 = .ok (.iastore, 1) := by decide +kernel
theorem dX1_pullOnce_59 : decode cX1_pullOnce 59 = .ok (.iload_n 3, 1) := by decide +kernel
theorem dX1_pullOnce_60 : decode cX1_pullOnce 60 = .ok (.aload_n 0, 1) := by decide +kernel
theorem dX1_pullOnce_61 : decode cX1_pullOnce 61 = .ok (.getfield 15, 3) := by decide +kernel
theorem dX1_pullOnce_64 : decode cX1_pullOnce 64 = .ok (.iload 4, 2) := by decide +kernel
theorem dX1_pullOnce_66 : decode cX1_pullOnce 66 = .ok (.iaload, 1) := by decide +kernel
theorem dX1_pullOnce_67 : decode cX1_pullOnce 67 = .ok (.iadd, 1) := by decide +kernel
theorem dX1_pullOnce_68 : decode cX1_pullOnce 68 = .ok (.istore_n 3, 1) := by decide +kernel
theorem dX1_pullOnce_69 : decode cX1_pullOnce 69 = .ok (.aload_n 0, 1) := by decide +kernel
theorem dX1_pullOnce_70 : decode cX1_pullOnce 70 = .ok (.getfield 15, 3) := by decide +kernel
theorem dX1_pullOnce_73 : decode cX1_pullOnce 73 = .ok (.iload 4, 2) := by decide +kernel
theorem dX1_pullOnce_75 : decode cX1_pullOnce 75 = .ok (.iaload, 1) := by decide +kernel
theorem dX1_pullOnce_76 : decode cX1_pullOnce 76 = .ok (.iload 4, 2) := by decide +kernel
theorem dX1_pullOnce_78 : decode cX1_pullOnce 78 = .ok (.iconst 1, 1) := by decide +kernel
theorem dX1_pullOnce_79 : decode cX1_pullOnce 79 = .ok (.iadd, 1) := by decide +kernel
theorem dX1_pullOnce_80 : decode cX1_pullOnce 80 = .ok (.imul, 1) := by decide +kernel
theorem dX1_pullOnce_81 : decode cX1_pullOnce 81 = .ok (.istore 5, 2) := by decide +kernel
theorem dX1_pullOnce_83 : decode cX1_pullOnce 83 = .ok (.aload_n 0, 1) := by decide +kernel
theorem dX1_pullOnce_84 : decode cX1_pullOnce 84 = .ok (.dup, 1) := by decide +kernel
theorem dX1_pullOnce_85 : decode cX1_pullOnce 85 = .ok (.getfield 71, 3) := by decide +kernel
theorem dX1_pullOnce_88 : decode cX1_pullOnce 88 = .ok (.aload_n 0, 1) := by decide +kernel
theorem dX1_pullOnce_89 : decode cX1_pullOnce 89 = .ok (.getfield 33, 3) := by decide +kernel
theorem dX1_pullOnce_92 : decode cX1_pullOnce 92 = .ok (.getfield 96, 3) := by decide +kernel
theorem dX1_pullOnce_95 : decode cX1_pullOnce 95 = .ok (.iload 4, 2) := by decide +kernel
theorem dX1_pullOnce_97 : decode cX1_pullOnce 97 = .ok (.iaload, 1) := by decide +kernel
theorem dX1_pullOnce_98 : decode cX1_pullOnce 98 = .ok (.ifCond .ne 9, 3) := by decide +kernel
theorem dX1_pullOnce_101 : decode cX1_pullOnce 101 = .ok (.iload 5, 2) := by decide +kernel
theorem dX1_pullOnce_103 : decode cX1_pullOnce 103 = .ok (.i2l, 1) := by decide +kernel
theorem dX1_pullOnce_104 : decode cX1_pullOnce 104 = .ok (.goto 7, 3) := by decide +kernel
theorem dX1_pullOnce_107 : decode cX1_pullOnce 107 = .ok (.iload 5, 2) := by decide +kernel
theorem dX1_pullOnce_109 : decode cX1_pullOnce 109 = .ok (.ineg, 1) := by decide +kernel
theorem dX1_pullOnce_110 : decode cX1_pullOnce 110 = .ok (.i2l, 1) := by decide +kernel
theorem dX1_pullOnce_111 : decode cX1_pullOnce 111 = .ok (.ladd, 1) := by decide +kernel
theorem dX1_pullOnce_112 : decode cX1_pullOnce 112 = .ok (.putfield 71, 3) := by decide +kernel
theorem dX1_pullOnce_115 : decode cX1_pullOnce 115 = .ok (.iinc 4 1, 3) := by decide +kernel
theorem dX1_pullOnce_118 : decode cX1_pullOnce 118 = .ok (.goto (-108), 3) := by decide +kernel
theorem dX1_pullOnce_121 : decode cX1_pullOnce 121 = .ok (.aload_n 0, 1) := by decide +kernel
theorem dX1_pullOnce_122 : decode cX1_pullOnce 122 = .ok (.getfield 64, 3) := by decide +kernel
theorem dX1_pullOnce_125 : decode cX1_pullOnce 125 = .ok (.istore 4, 2) := by decide +kernel
theorem dX1_pullOnce_127 : decode cX1_pullOnce 127 = .ok (.aload_n 0, 1) := by decide +kernel
theorem dX1_pullOnce_128 : decode cX1_pullOnce 128 = .ok (.dup, 1) := by decide +kernel
theorem dX1_pullOnce_129 : decode cX1_pullOnce 129 = .ok (.getfield 64, 3) := by decide +kernel
theorem dX1_pullOnce_132 : decode cX1_pullOnce 132 = .ok (.aload_n 0, 1) := by decide +kernel
theorem dX1_pullOnce_133 : decode cX1_pullOnce 133 = .ok (.getfield 57, 3) := by decide +kernel
theorem dX1_pullOnce_136 : decode cX1_pullOnce 136 = .ok (.ifCond .le 15, 3) := by decide +kernel
theorem dX1_pullOnce_139 : decode cX1_pullOnce 139 = .ok (.iload_n 3, 1) := by decide +kernel
theorem dX1_pullOnce_140 : decode cX1_pullOnce 140 = .ok (.bipush 100, 2) := by decide +kernel
theorem dX1_pullOnce_142 : decode cX1_pullOnce 142 = .ok (.imul, 1) := by decide +kernel
theorem dX1_pullOnce_143 : decode cX1_pullOnce 143 = .ok (.aload_n 0, 1) := by decide +kernel
theorem dX1_pullOnce_144 : decode cX1_pullOnce 144 = .ok (.getfield 57, 3) := by decide +kernel
theorem dX1_pullOnce_147 : decode cX1_pullOnce 147 = .ok (.idiv, 1) := by decide +kernel
theorem dX1_pullOnce_148 : decode cX1_pullOnce 148 = .ok (.goto 4, 3) := by decide +kernel
theorem dX1_pullOnce_151 : decode cX1_pullOnce 151 = .ok (.iconst 0, 1) := by decide +kernel
theorem dX1_pullOnce_152 : decode cX1_pullOnce 152 = .ok (.iadd, 1) := by decide +kernel
theorem dX1_pullOnce_153 : decode cX1_pullOnce 153 = .ok (.putfield 64, 3) := by decide +kernel
theorem dX1_pullOnce_156 : decode cX1_pullOnce 156 = .ok (.iload_n 2, 1) := by decide +kernel
theorem dX1_pullOnce_157 : decode cX1_pullOnce 157 = .ok (.aload_n 0, 1) := by decide +kernel
theorem dX1_pullOnce_158 : decode cX1_pullOnce 158 = .ok (.getfield 64, 3) := by decide +kernel
theorem dX1_pullOnce_161 : decode cX1_pullOnce 161 = .ok (.invokestatic 99, 3) := by decide +kernel
theorem dX1_pullOnce_164 : decode cX1_pullOnce 164 = .ok (.istore 5, 2) := by decide +kernel
theorem dX1_pullOnce_166 : decode cX1_pullOnce 166 = .ok (.aload_n 0, 1) := by decide +kernel
theorem dX1_pullOnce_167 : decode cX1_pullOnce 167 = .ok (.dup, 1) := by decide +kernel
theorem dX1_pullOnce_168 : decode cX1_pullOnce 168 = .ok (.getfield 64, 3) := by decide +kernel
theorem dX1_pullOnce_171 : decode cX1_pullOnce 171 = .ok (.iload 5, 2) := by decide +kernel
theorem dX1_pullOnce_173 : decode cX1_pullOnce 173 = .ok (.isub, 1) := by decide +kernel
theorem dX1_pullOnce_174 : decode cX1_pullOnce 174 = .ok (.putfield 64, 3) := by decide +kernel
theorem dX1_pullOnce_177 : decode cX1_pullOnce 177 = .ok (.aload_n 0, 1) := by decide +kernel
theorem dX1_pullOnce_178 : decode cX1_pullOnce 178 = .ok (.dup, 1) := by decide +kernel
theorem dX1_pullOnce_179 : decode cX1_pullOnce 179 = .ok (.getfield 74, 3) := by decide +kernel
theorem dX1_pullOnce_182 : decode cX1_pullOnce 182 = .ok (.iload 5, 2) := by decide +kernel
theorem dX1_pullOnce_184 : decode cX1_pullOnce 184 = .ok (.i2l, 1) := by decide +kernel
theorem dX1_pullOnce_185 : decode cX1_pullOnce 185 = .ok (.ladd, 1) := by decide +kernel
theorem dX1_pullOnce_186 : decode cX1_pullOnce 186 = .ok (.putfield 74, 3) := by decide +kernel
theorem dX1_pullOnce_189 : decode cX1_pullOnce 189 = .ok (.iload 4, 2) := by decide +kernel
theorem dX1_pullOnce_191 : decode cX1_pullOnce 191 = .ok (.iload_n 1, 1) := by decide +kernel
theorem dX1_pullOnce_192 : decode cX1_pullOnce 192 = .ok (.invokestatic 105, 3) := by decide +kernel
theorem dX1_pullOnce_195 : decode cX1_pullOnce 195 = .ok (.imul, 1) := by decide +kernel
theorem dX1_pullOnce_196 : decode cX1_pullOnce 196 = .ok (.bipush 100, 2) := by decide +kernel
theorem dX1_pullOnce_198 : decode cX1_pullOnce 198 = .ok (.idiv, 1) := by decide +kernel
theorem dX1_pullOnce_199 : decode cX1_pullOnce 199 = .ok (.aload_n 0, 1) := by decide +kernel
theorem dX1_pullOnce_200 : decode cX1_pullOnce 200 = .ok (.getfield 64, 3) := by decide +kernel
theorem dX1_pullOnce_203 : decode cX1_pullOnce 203 = .ok (.invokestatic 99, 3) := by decide +kernel
theorem dX1_pullOnce_206 : decode cX1_pullOnce 206 = .ok (.istore 6, 2) := by decide +kernel
theorem dX1_pullOnce_208 : decode cX1_pullOnce 208 = .ok (.aload_n 0, 1) := by decide +kernel
theorem dX1_pullOnce_209 : decode cX1_pullOnce 209 = .ok (.dup, 1) := by decide +kernel
theorem dX1_pullOnce_210 : decode cX1_pullOnce 210 = .ok (.getfield 64, 3) := by decide +kernel
theorem dX1_pullOnce_213 : decode cX1_pullOnce 213 = .ok (.iload 6, 2) := by decide +kernel
theorem dX1_pullOnce_215 : decode cX1_pullOnce 215 = .ok (.isub, 1) := by decide +kernel
theorem dX1_pullOnce_216 : decode cX1_pullOnce 216 = .ok (.putfield 64, 3) := by decide +kernel
theorem dX1_pullOnce_219 : decode cX1_pullOnce 219 = .ok (.aload_n 0, 1) := by decide +kernel
theorem dX1_pullOnce_220 : decode cX1_pullOnce 220 = .ok (.dup, 1) := by decide +kernel
theorem dX1_pullOnce_221 : decode cX1_pullOnce 221 = .ok (.getfield 77, 3) := by decide +kernel
theorem dX1_pullOnce_224 : decode cX1_pullOnce 224 = .ok (.iload 6, 2) := by decide +kernel
theorem dX1_pullOnce_226 : decode cX1_pullOnce 226 = .ok (.i2l, 1) := by decide +kernel
theorem dX1_pullOnce_227 : decode cX1_pullOnce 227 = .ok (.ladd, 1) := by decide +kernel
theorem dX1_pullOnce_228 : decode cX1_pullOnce 228 = .ok (.putfield 77, 3) := by decide +kernel
theorem dX1_pullOnce_231 : decode cX1_pullOnce 231 = .ok (.aload_n 0, 1) := by decide +kernel
theorem dX1_pullOnce_232 : decode cX1_pullOnce 232 = .ok (.ldc 111, 2) := by decide +kernel
theorem dX1_pullOnce_234 : decode cX1_pullOnce 234 = .ok (.aload_n 0, 1) := by decide +kernel
theorem dX1_pullOnce_235 : decode cX1_pullOnce 235 = .ok (.getfield 64, 3) := by decide +kernel
theorem dX1_pullOnce_238 : decode cX1_pullOnce 238 = .ok (.invokestatic 99, 3) := by decide +kernel
theorem dX1_pullOnce_241 : decode cX1_pullOnce 241 = .ok (.putfield 64, 3) := by decide +kernel
theorem dX1_pullOnce_244 : decode cX1_pullOnce 244 = .ok (.aload_n 0, 1) := by decide +kernel
theorem dX1_pullOnce_245 : decode cX1_pullOnce 245 = .ok (.dup, 1) := by decide +kernel
theorem dX1_pullOnce_246 : decode cX1_pullOnce 246 = .ok (.getfield 67, 3) := by decide +kernel
theorem dX1_pullOnce_249 : decode cX1_pullOnce 249 = .ok (.aload_n 0, 1) := by decide +kernel
theorem dX1_pullOnce_250 : decode cX1_pullOnce 250 = .ok (.getfield 64, 3) := by decide +kernel
theorem dX1_pullOnce_253 : decode cX1_pullOnce 253 = .ok (.i2l, 1) := by decide +kernel
theorem dX1_pullOnce_254 : decode cX1_pullOnce 254 = .ok (.ladd, 1) := by decide +kernel
theorem dX1_pullOnce_255 : decode cX1_pullOnce 255 = .ok (.putfield 67, 3) := by decide +kernel
theorem dX1_pullOnce_258 : decode cX1_pullOnce 258 = .ok (.aload_n 0, 1) := by decide +kernel
theorem dX1_pullOnce_259 : decode cX1_pullOnce 259 = .ok (.dup, 1) := by decide +kernel
theorem dX1_pullOnce_260 : decode cX1_pullOnce 260 = .ok (.getfield 61, 3) := by decide +kernel
theorem dX1_pullOnce_263 : decode cX1_pullOnce 263 = .ok (.iconst 1, 1) := by decide +kernel
theorem dX1_pullOnce_264 : decode cX1_pullOnce 264 = .ok (.iadd, 1) := by decide +kernel
theorem dX1_pullOnce_265 : decode cX1_pullOnce 265 = .ok (.putfield 61, 3) := by decide +kernel
theorem dX1_pullOnce_268 : decode cX1_pullOnce 268 = .ok (.return_, 1) := by decide +kernel
theorem dX1_pullAll_0 : decode cX1_pullAll 0 = .ok (.iconst 0, 1) := by decide +kernel
theorem dX1_pullAll_1 : decode cX1_pullAll 1 = .ok (.istore_n 3, 1) := by decide +kernel
theorem dX1_pullAll_2 : decode cX1_pullAll 2 = .ok (.iload_n 3, 1) := by decide +kernel
theorem dX1_pullAll_3 : decode cX1_pullAll 3 = .ok (.iload_n 2, 1) := by decide +kernel
theorem dX1_pullAll_4 : decode cX1_pullAll 4 = .ok (.if_icmp .ge 22, 3) := by decide +kernel
theorem dX1_pullAll_7 : decode cX1_pullAll 7 = .ok (.iload_n 3, 1) := by decide +kernel
theorem dX1_pullAll_8 : decode cX1_pullAll 8 = .ok (.aload_n 1, 1) := by decide +kernel
theorem dX1_pullAll_9 : decode cX1_pullAll 9 = .ok (.arraylength, 1) := by decide +kernel
theorem dX1_pullAll_10 : decode cX1_pullAll 10 = .ok (.if_icmp .ge 16, 3) := by decide +kernel
theorem dX1_pullAll_13 : decode cX1_pullAll 13 = .ok (.aload_n 0, 1) := by decide +kernel
theorem dX1_pullAll_14 : decode cX1_pullAll 14 = .ok (.aload_n 1, 1) := by decide +kernel
theorem dX1_pullAll_15 : decode cX1_pullAll 15 = .ok (.iload_n 3, 1) := by decide +kernel
theorem dX1_pullAll_16 : decode cX1_pullAll 16 = .ok (.iaload, 1) := by decide +kernel
theorem dX1_pullAll_17 : decode cX1_pullAll 17 = .ok (.invokevirtual 80, 3) := by decide +kernel
theorem dX1_pullAll_20 : decode cX1_pullAll 20 = .ok (.iinc 3 1, 3) := by decide +kernel
theorem dX1_pullAll_23 : decode cX1_pullAll 23 = .ok (.goto (-21), 3) := by decide +kernel
theorem dX1_pullAll_26 : decode cX1_pullAll 26 = .ok (.return_, 1) := by decide +kernel
theorem dX1_pullMany_0 : decode cX1_pullMany 0 = .ok (.iconst 0, 1) := by decide +kernel
theorem dX1_pullMany_1 : decode cX1_pullMany 1 = .ok (.istore_n 3, 1) := by decide +kernel
theorem dX1_pullMany_2 : decode cX1_pullMany 2 = .ok (.iload_n 3, 1) := by decide +kernel
theorem dX1_pullMany_3 : decode cX1_pullMany 3 = .ok (.iload_n 2, 1) := by decide +kernel
theorem dX1_pullMany_4 : decode cX1_pullMany 4 = .ok (.if_icmp .ge 14, 3) := by decide +kernel
theorem dX1_pullMany_7 : decode cX1_pullMany 7 = .ok (.aload_n 0, 1) := by decide +kernel
theorem dX1_pullMany_8 : decode cX1_pullMany 8 = .ok (.iload_n 1, 1) := by decide +kernel
theorem dX1_pullMany_9 : decode cX1_pullMany 9 = .ok (.invokevirtual 80, 3) := by decide +kernel
theorem dX1_pullMany_12 : decode cX1_pullMany 12 = .ok (.iinc 3 1, 3) := by decide +kernel
theorem dX1_pullMany_15 : decode cX1_pullMany 15 = .ok (.goto (-13), 3) := by decide +kernel
theorem dX1_pullMany_18 : decode cX1_pullMany 18 = .ok (.return_, 1) := by decide +kernel
theorem dX1_wagsBy_0 : decode cX1_wagsBy 0 = .ok (.lconst 0, 1) := by decide +kernel
theorem dX1_wagsBy_1 : decode cX1_wagsBy 1 = .ok (.lstore_n 2, 1) := by decide +kernel
theorem dX1_wagsBy_2 : decode cX1_wagsBy 2 = .ok (.iconst 0, 1) := by decide +kernel
theorem dX1_wagsBy_3 : decode cX1_wagsBy 3 = .ok (.istore 4, 2) := by decide +kernel
theorem dX1_wagsBy_5 : decode cX1_wagsBy 5 = .ok (.iload 4, 2) := by decide +kernel
theorem dX1_wagsBy_7 : decode cX1_wagsBy 7 = .ok (.bipush 8, 2) := by decide +kernel
theorem dX1_wagsBy_9 : decode cX1_wagsBy 9 = .ok (.if_icmp .ge 45, 3) := by decide +kernel
theorem dX1_wagsBy_12 : decode cX1_wagsBy 12 = .ok (.aload_n 0, 1) := by decide +kernel
theorem dX1_wagsBy_13 : decode cX1_wagsBy 13 = .ok (.getfield 15, 3) := by decide +kernel
theorem dX1_wagsBy_16 : decode cX1_wagsBy 16 = .ok (.iload 4, 2) := by decide +kernel
theorem dX1_wagsBy_18 : decode cX1_wagsBy 18 = .ok (.iaload, 1) := by decide +kernel
theorem dX1_wagsBy_19 : decode cX1_wagsBy 19 = .ok (.iload 4, 2) := by decide +kernel
theorem dX1_wagsBy_21 : decode cX1_wagsBy 21 = .ok (.iconst 1, 1) := by decide +kernel
theorem dX1_wagsBy_22 : decode cX1_wagsBy 22 = .ok (.iadd, 1) := by decide +kernel
theorem dX1_wagsBy_23 : decode cX1_wagsBy 23 = .ok (.imul, 1) := by decide +kernel
theorem dX1_wagsBy_24 : decode cX1_wagsBy 24 = .ok (.istore 5, 2) := by decide +kernel
theorem dX1_wagsBy_26 : decode cX1_wagsBy 26 = .ok (.lload_n 2, 1) := by decide +kernel
theorem dX1_wagsBy_27 : decode cX1_wagsBy 27 = .ok (.iload_n 1, 1) := by decide +kernel
theorem dX1_wagsBy_28 : decode cX1_wagsBy 28 = .ok (.iload 4, 2) := by decide +kernel
theorem dX1_wagsBy_30 : decode cX1_wagsBy 30 = .ok (.ishr, 1) := by decide +kernel
theorem dX1_wagsBy_31 : decode cX1_wagsBy 31 = .ok (.iconst 1, 1) := by decide +kernel
theorem dX1_wagsBy_32 : decode cX1_wagsBy 32 = .ok (.iand, 1) := by decide +kernel
theorem dX1_wagsBy_33 : decode cX1_wagsBy 33 = .ok (.ifCond .ne 9, 3) := by decide +kernel
theorem dX1_wagsBy_36 : decode cX1_wagsBy 36 = .ok (.iload 5, 2) := by decide +kernel
theorem dX1_wagsBy_38 : decode cX1_wagsBy 38 = .ok (.i2l, 1) := by decide +kernel
theorem dX1_wagsBy_39 : decode cX1_wagsBy 39 = .ok (.goto 7, 3) := by decide +kernel
theorem dX1_wagsBy_42 : decode cX1_wagsBy 42 = .ok (.iload 5, 2) := by decide +kernel
theorem dX1_wagsBy_44 : decode cX1_wagsBy 44 = .ok (.ineg, 1) := by decide +kernel
theorem dX1_wagsBy_45 : decode cX1_wagsBy 45 = .ok (.i2l, 1) := by decide +kernel
theorem dX1_wagsBy_46 : decode cX1_wagsBy 46 = .ok (.ladd, 1) := by decide +kernel
theorem dX1_wagsBy_47 : decode cX1_wagsBy 47 = .ok (.lstore_n 2, 1) := by decide +kernel
theorem dX1_wagsBy_48 : decode cX1_wagsBy 48 = .ok (.iinc 4 1, 3) := by decide +kernel
theorem dX1_wagsBy_51 : decode cX1_wagsBy 51 = .ok (.goto (-46), 3) := by decide +kernel
theorem dX1_wagsBy_54 : decode cX1_wagsBy 54 = .ok (.lload_n 2, 1) := by decide +kernel
theorem dX1_wagsBy_55 : decode cX1_wagsBy 55 = .ok (.invokestatic 112, 3) := by decide +kernel
theorem dX1_wagsBy_58 : decode cX1_wagsBy 58 = .ok (.lreturn, 1) := by decide +kernel
set_option maxHeartbeats 4000000 in
set_option maxRecDepth 100000 in
theorem c_X1_begin {l : Launch} {w : Wd} (hW : HWd w shX rX 66) (σ : St) (cr : Nat)  : ∀ res, f_X1_begin σ cr = some res → MtV l yX1_begin cX1_begin 2 2 60 w [.ref (wA w 31), .ref (wA w cr)] σ res := by
  refine mt_V (by decide) rfl hW (fun X hl0 hC hret => ?_)
  show RF X w (Aw w (xs_ X).heap.size) 2 (QV X w) (f_X1_begin σ cr) 0 [(0, .ref (wA w 31)), (1, .ref (wA w cr))] [] σ
  unfold f_X1_begin
  refine r_aload_n hC dX1_begin_0 rfl 0 rfl ?_
  refine r_aload_n hC dX1_begin_1 rfl 1 rfl ?_
  refine r_putD hC clX1 31 2 rfl rfl rfl (hC.n rfl) rfl rfl lf_X1_37 dX1_begin_2 ?_
  refine r_nmS (fun σ1 => ?_)
  refine r_aload_n hC dX1_begin_5 rfl 0 rfl ?_
  refine r_getR hC clX1 31 1 6 rfl rfl rfl (hC.n rfl) rfl lf_X1_33 dX1_begin_6 ?_
  refine r_getR hC clX0 6 0 7 rfl rfl rfl (hC.n rfl) rfl lf_X1_41 dX1_begin_9 ?_
  refine r_iconst (v := 0) hC dX1_begin_12 (by decide) ?_
  refine r_aload_n hC dX1_begin_13 rfl 0 rfl ?_
  refine r_getR hC clX1 31 3 32 rfl rfl rfl (hC.n rfl) rfl lf_X1_9 dX1_begin_14 ?_
  refine r_iconst (v := 0) hC dX1_begin_17 (by decide) ?_
  refine r_bipush (v := 8) hC dX1_begin_18 (by decide) ?_
  refine r_gd (fun g2 => ?_)
  refine r_copyi hC 7 32 8 8 rfl rfl rfl rfl g2 (by decide) (Nat.le_of_ble_eq_true rfl) lm_X1_44 wn_copy ws_copy wi_sys dX1_begin_20 ?_
  refine r_nmS (fun σ3 => ?_)
  refine r_aload_n hC dX1_begin_23 rfl 0 rfl ?_
  refine r_getR hC clX1 31 0 1 rfl rfl rfl (hC.n rfl) rfl lf_X1_29 dX1_begin_24 ?_
  refine r_getR hC clX2 1 2 4 rfl rfl rfl (hC.n rfl) rfl lf_X1_50 dX1_begin_27 ?_
  refine r_iconst (v := 0) hC dX1_begin_30 (by decide) ?_
  refine r_aload_n hC dX1_begin_31 rfl 0 rfl ?_
  refine r_getR hC clX1 31 9 36 rfl rfl rfl (hC.n rfl) rfl lf_X1_26 dX1_begin_32 ?_
  refine r_iconst (v := 0) hC dX1_begin_35 (by decide) ?_
  refine r_bipush (v := 16) hC dX1_begin_36 (by decide) ?_
  refine r_gd (fun g4 => ?_)
  refine r_copyi hC 4 36 16 16 rfl rfl rfl rfl g4 (by decide) (Nat.le_of_ble_eq_true rfl) lm_X1_44 wn_copy ws_copy wi_sys dX1_begin_38 ?_
  refine r_nmS (fun σ5 => ?_)
  refine r_aload_n hC dX1_begin_41 rfl 0 rfl ?_
  refine r_aload_n hC dX1_begin_42 rfl 0 rfl ?_
  refine r_getR hC clX1 31 1 6 rfl rfl rfl (hC.n rfl) rfl lf_X1_33 dX1_begin_43 ?_
  refine r_aload_n hC dX1_begin_46 rfl 0 rfl ?_
  refine r_getR hC clX1 31 0 1 rfl rfl rfl (hC.n rfl) rfl lf_X1_29 dX1_begin_47 ?_
  refine r_callVP hC (b := 6) (ci := 0) (st := [.ref (wA w 31)]) [.ref (wA w 1)] rfl (hC.n rfl) rfl rfl (c_X0_weightOf hC.w σ5) yk_X0_weightOf lm_X1_53 rfl ⟨rfl, rfl⟩ rfl dX1_begin_50 (fun v6 => ?_)
  refine r_sipush (v := 200) hC dX1_begin_53 (by decide) ?_
  refine r_iadd hC dX1_begin_56 ?_
  refine r_putI hC clX1 31 7 rfl rfl rfl (hC.n rfl) rfl rfl lf_X1_57 dX1_begin_57 ?_
  refine r_nmS (fun σ7 => ?_)
  refine r_aload_n hC dX1_begin_60 rfl 0 rfl ?_
  refine r_iconst (v := 0) hC dX1_begin_61 (by decide) ?_
  refine r_putI hC clX1 31 8 rfl rfl rfl (hC.n rfl) rfl rfl lf_X1_61 dX1_begin_62 ?_
  refine r_nmS (fun σ8 => ?_)
  refine r_aload_n hC dX1_begin_65 rfl 0 rfl ?_
  refine r_iconst (v := 0) hC dX1_begin_66 (by decide) ?_
  refine r_putI hC clX1 31 10 rfl rfl rfl (hC.n rfl) rfl rfl lf_X1_64 dX1_begin_67 ?_
  refine r_nmS (fun σ9 => ?_)
  refine r_aload_n hC dX1_begin_70 rfl 0 rfl ?_
  refine r_lconst (v := 0) hC dX1_begin_71 (by decide) ?_
  refine r_putL hC clX1 31 11 rfl rfl rfl (hC.n rfl) rfl rfl lf_X1_67 dX1_begin_72 ?_
  refine r_nmS (fun σ10 => ?_)
  refine r_aload_n hC dX1_begin_75 rfl 0 rfl ?_
  refine r_lconst (v := 0) hC dX1_begin_76 (by decide) ?_
  refine r_putL hC clX1 31 12 rfl rfl rfl (hC.n rfl) rfl rfl lf_X1_71 dX1_begin_77 ?_
  refine r_nmS (fun σ11 => ?_)
  refine r_aload_n hC dX1_begin_80 rfl 0 rfl ?_
  refine r_lconst (v := 0) hC dX1_begin_81 (by decide) ?_
  refine r_putL hC clX1 31 13 rfl rfl rfl (hC.n rfl) rfl rfl lf_X1_74 dX1_begin_82 ?_
  refine r_nmS (fun σ12 => ?_)
  refine r_aload_n hC dX1_begin_85 rfl 0 rfl ?_
  refine r_lconst (v := 0) hC dX1_begin_86 (by decide) ?_
  refine r_putL hC clX1 31 14 rfl rfl rfl (hC.n rfl) rfl rfl lf_X1_77 dX1_begin_87 ?_
  refine r_nmS (fun σ13 => ?_)
  exact r_vret hC hret dX1_begin_90
set_option maxHeartbeats 4000000 in
set_option maxRecDepth 100000 in
theorem c_X1_changeSeats {l : Launch} {w : Wd} (hW : HWd w shX rX 66) (σ : St) (a2 : Int32) (a3 : Int32)  : ∀ res, f_X1_changeSeats σ a2 a3 = some res → MtV l yX1_changeSeats cX1_changeSeats 4 0 0 w [.ref (wA w 31), .int a2, .int a3] σ res := by
  refine mt_V (by decide) rfl hW (fun X hl0 hC hret => ?_)
  show RF X w (Aw w (xs_ X).heap.size) 4 (QV X w) (f_X1_changeSeats σ a2 a3) 0 [(0, .ref (wA w 31)), (1, .int a2), (2, .int a3)] [] σ
  unfold f_X1_changeSeats
  refine r_aload_n hC dX1_changeSeats_0 rfl 0 rfl ?_
  refine r_getR hC clX1 31 3 32 rfl rfl rfl (hC.n rfl) rfl lf_X1_9 dX1_changeSeats_1 ?_
  refine r_iload_n hC dX1_changeSeats_4 rfl 1 rfl ?_
  refine r_gd (fun g1 => ?_)
  refine r_iald hC 32 8 rfl rfl g1 dX1_changeSeats_5 ?_
  refine r_nmI (fun v2 => ?_)
  refine r_istore_n (lv' := [(3, .int v2), (0, .ref (wA w 31)), (1, .int a2), (2, .int a3)]) hC dX1_changeSeats_6 rfl (by decide) rfl ?_
  refine r_aload_n hC dX1_changeSeats_7 rfl 1 rfl ?_
  refine r_getR hC clX1 31 3 32 rfl rfl rfl (hC.n rfl) rfl lf_X1_9 dX1_changeSeats_8 ?_
  refine r_iload_n hC dX1_changeSeats_11 rfl 2 rfl ?_
  refine r_aload_n hC dX1_changeSeats_12 rfl 1 rfl ?_
  refine r_getR hC clX1 31 3 32 rfl rfl rfl (hC.n rfl) rfl lf_X1_9 dX1_changeSeats_13 ?_
  refine r_iload_n hC dX1_changeSeats_16 rfl 3 rfl ?_
  refine r_gd (fun g3 => ?_)
  refine r_iald hC 32 8 rfl rfl g3 dX1_changeSeats_17 ?_
  refine r_nmI (fun v4 => ?_)
  refine r_gd (fun g5 => ?_)
  refine r_iast hC 32 8 rfl rfl g5 dX1_changeSeats_18 ?_
  refine r_nmS (fun σ6 => ?_)
  refine r_aload_n hC dX1_changeSeats_19 rfl 1 rfl ?_
  refine r_getR hC clX1 31 3 32 rfl rfl rfl (hC.n rfl) rfl lf_X1_9 dX1_changeSeats_20 ?_
  refine r_iload_n hC dX1_changeSeats_23 rfl 3 rfl ?_
  refine r_iload_n hC dX1_changeSeats_24 rfl 0 rfl ?_
  refine r_gd (fun g7 => ?_)
  refine r_iast hC 32 8 rfl rfl g7 dX1_changeSeats_25 ?_
  refine r_nmS (fun σ8 => ?_)
  exact r_vret hC hret dX1_changeSeats_26
set_option maxHeartbeats 4000000 in
set_option maxRecDepth 100000 in
theorem c_X1_nameAll {l : Launch} {w : Wd} (hW : HWd w shX rX 66) (σ : St) (a2 : Int32) (a3 : Int32)  : ∀ res, f_X1_nameAll σ a2 a3 = some res → MtV l yX1_nameAll cX1_nameAll 4 1 21 w [.ref (wA w 31), .int a2, .int a3] σ res := by
  refine mt_V (by decide) rfl hW (fun X hl0 hC hret => ?_)
  show RF X w (Aw w (xs_ X).heap.size) 4 (QV X w) (f_X1_nameAll σ a2 a3) 0 [(0, .ref (wA w 31)), (1, .int a2), (2, .int a3)] [] σ
  unfold f_X1_nameAll
  refine r_aload_n hC dX1_nameAll_0 rfl 0 rfl ?_
  refine r_getR hC clX1 31 0 1 rfl rfl rfl (hC.n rfl) rfl lf_X1_29 dX1_nameAll_1 ?_
  refine r_iload_n hC dX1_nameAll_4 rfl 2 rfl ?_
  refine r_callVP hC (b := 1) (ci := 2) (st := []) [.int a3] rfl (hC.n rfl) rfl rfl (c_X2_has hC.w σ a3) yk_X2_has lm_X1_88 rfl ⟨rfl, rfl⟩ rfl dX1_nameAll_5 (fun v1 => ?_)
  refine r_istore_n (lv' := [(3, .int v1), (0, .ref (wA w 31)), (1, .int a2), (2, .int a3)]) hC dX1_nameAll_8 rfl (by decide) rfl ?_
  refine r_aload_n hC dX1_nameAll_9 rfl 1 rfl ?_
  refine r_getR hC clX1 31 5 34 rfl rfl rfl (hC.n rfl) rfl lf_X1_20 dX1_nameAll_10 ?_
  refine r_iconst (v := 0) hC dX1_nameAll_13 (by decide) ?_
  refine r_iload_n hC dX1_nameAll_14 rfl 0 rfl ?_
  refine r_jn (T := fun (j3 : Int32 → Option St) => ∀ (t2 : Int32), RF X w (Aw w (xs_ X).heap.size) 4 (QV X w) (j3 t2) 31 [(0, .ref (wA w 31)), (1, .int a2), (2, .int a3), (3, .int v1)] [.int t2, .int 0, .ref (wA w 34)] σ) ?_ (fun j3 hj3 => ?_)
  · intro t2
    refine r_gd (fun g4 => ?_)
    refine r_iast hC 34 6 rfl rfl g4 dX1_nameAll_31 ?_
    refine r_nmS (fun σ5 => ?_)
    refine r_aload_n hC dX1_nameAll_32 rfl 0 rfl ?_
    refine r_getR hC clX1 31 5 34 rfl rfl rfl (hC.n rfl) rfl lf_X1_20 dX1_nameAll_33 ?_
    refine r_iconst (v := 1) hC dX1_nameAll_36 (by decide) ?_
    refine r_iload_n hC dX1_nameAll_37 rfl 3 rfl ?_
    refine r_jn (T := fun (j7 : Int32 → Option St) => ∀ (t6 : Int32), RF X w (Aw w (xs_ X).heap.size) 4 (QV X w) (j7 t6) 51 [(0, .ref (wA w 31)), (1, .int a2)] [.int t6, .int 1, .ref (wA w 34)] σ5) ?_ (fun j7 hj7 => ?_)
    · intro t6
      refine r_gd (fun g8 => ?_)
      refine r_iast hC 34 6 rfl rfl g8 dX1_nameAll_51 ?_
      refine r_nmS (fun σ9 => ?_)
      refine r_aload_n hC dX1_nameAll_52 rfl 0 rfl ?_
      refine r_getR hC clX1 31 5 34 rfl rfl rfl (hC.n rfl) rfl lf_X1_20 dX1_nameAll_53 ?_
      refine r_iconst (v := 2) hC dX1_nameAll_56 (by decide) ?_
      refine r_iload_n hC dX1_nameAll_57 rfl 1 rfl ?_
      refine r_gd (fun g10 => ?_)
      refine r_iast hC 34 6 rfl rfl g10 dX1_nameAll_58 ?_
      refine r_nmS (fun σ11 => ?_)
      refine r_aload_n hC dX1_nameAll_59 rfl 0 rfl ?_
      refine r_getR hC clX1 31 5 34 rfl rfl rfl (hC.n rfl) rfl lf_X1_20 dX1_nameAll_60 ?_
      refine r_iconst (v := 3) hC dX1_nameAll_63 (by decide) ?_
      refine r_aload_n hC dX1_nameAll_64 rfl 0 rfl ?_
      refine r_getR hC clX1 31 1 6 rfl rfl rfl (hC.n rfl) rfl lf_X1_33 dX1_nameAll_65 ?_
      refine r_getR hC clX0 6 2 9 rfl rfl rfl (hC.n rfl) rfl lf_X1_142 dX1_nameAll_68 ?_
      refine r_iload_n hC dX1_nameAll_71 rfl 1 rfl ?_
      refine r_gd (fun g12 => ?_)
      refine r_iald hC 9 8 rfl rfl g12 dX1_nameAll_72 ?_
      refine r_nmI (fun v13 => ?_)
      refine r_gd (fun g14 => ?_)
      refine r_iast hC 34 6 rfl rfl g14 dX1_nameAll_73 ?_
      refine r_nmS (fun σ15 => ?_)
      refine r_aload_n hC dX1_nameAll_74 rfl 0 rfl ?_
      refine r_getR hC clX1 31 5 34 rfl rfl rfl (hC.n rfl) rfl lf_X1_20 dX1_nameAll_75 ?_
      refine r_iconst (v := 4) hC dX1_nameAll_78 (by decide) ?_
      refine r_aload_n hC dX1_nameAll_79 rfl 0 rfl ?_
      refine r_getI hC clX1 31 10 rfl rfl (hC.n rfl) rfl lf_X1_64 dX1_nameAll_80 ?_
      refine r_nmI (fun v16 => ?_)
      refine r_gd (fun g17 => ?_)
      refine r_iast hC 34 6 rfl rfl g17 dX1_nameAll_83 ?_
      refine r_nmS (fun σ18 => ?_)
      refine r_aload_n hC dX1_nameAll_84 rfl 0 rfl ?_
      refine r_getR hC clX1 31 5 34 rfl rfl rfl (hC.n rfl) rfl lf_X1_20 dX1_nameAll_85 ?_
      refine r_iconst (v := 5) hC dX1_nameAll_88 (by decide) ?_
      refine r_aload_n hC dX1_nameAll_89 rfl 0 rfl ?_
      refine r_getI hC clX1 31 8 rfl rfl (hC.n rfl) rfl lf_X1_61 dX1_nameAll_90 ?_
      refine r_nmI (fun v19 => ?_)
      refine r_gd (fun g20 => ?_)
      refine r_iast hC 34 6 rfl rfl g20 dX1_nameAll_93 ?_
      refine r_nmS (fun σ21 => ?_)
      exact r_vret hC hret dX1_nameAll_94
    · refine r_if_eq hC 50 dX1_nameAll_38 (by decide) (fun c22 => ?_) (fun c22 => ?_)
      · refine r_iconst (v := 0) hC dX1_nameAll_50 (by decide) ?_
        exact r_lv [0, 1] rfl (hj7 0)
      · refine r_aload_n hC dX1_nameAll_41 rfl 0 rfl ?_
        refine r_getR hC clX1 31 9 36 rfl rfl rfl (hC.n rfl) rfl lf_X1_26 dX1_nameAll_42 ?_
        refine r_iload_n hC dX1_nameAll_45 rfl 2 rfl ?_
        refine r_gd (fun g23 => ?_)
        refine r_iald hC 36 16 rfl rfl g23 dX1_nameAll_46 ?_
        refine r_nmI (fun v24 => ?_)
        refine r_goto hC 51 dX1_nameAll_47 (by decide) ?_
        exact r_lv [0, 1] rfl (hj7 v24)
  · refine r_if_eq hC 30 dX1_nameAll_15 (by decide) (fun c25 => ?_) (fun c25 => ?_)
    · refine r_iconst (v := 0) hC dX1_nameAll_30 (by decide) ?_
      exact r_lv [1, 2, 3, 0] rfl (hj3 0)
    · refine r_aload_n hC dX1_nameAll_18 rfl 1 rfl ?_
      refine r_getR hC clX1 31 0 1 rfl rfl rfl (hC.n rfl) rfl lf_X1_29 dX1_nameAll_19 ?_
      refine r_getR hC clX2 1 1 3 rfl rfl rfl (hC.n rfl) rfl lf_X1_145 dX1_nameAll_22 ?_
      refine r_iload_n hC dX1_nameAll_25 rfl 3 rfl ?_
      refine r_gd (fun g26 => ?_)
      refine r_iald hC 3 16 rfl rfl g26 dX1_nameAll_26 ?_
      refine r_nmI (fun v27 => ?_)
      refine r_goto hC 31 dX1_nameAll_27 (by decide) ?_
      exact r_lv [1, 2, 3, 0] rfl (hj3 v27)
set_option maxHeartbeats 4000000 in
set_option maxRecDepth 100000 in
theorem c_X1_waterNow {l : Launch} {w : Wd} (hW : HWd w shX rX 66) {nc : Nat} (hnc : nc ≤ wN w) (σ : St)   : ∀ res, f_X1_waterNow nc σ = some res → MtI l yX1_waterNow cX1_waterNow 2 .int 2 52 w [.ref (wA w 31)] σ res := by
  refine mt_I (by decide) rfl hW (fun X hl0 hC hret => ?_)
  show RF X w (Aw w (xs_ X).heap.size) 2 (QI X w) (f_X1_waterNow nc σ) 0 [(0, .ref (wA w 31))] [] σ
  unfold f_X1_waterNow
  refine r_aload_n hC dX1_waterNow_0 rfl 0 rfl ?_
  refine r_iconst (v := 0) hC dX1_waterNow_1 (by decide) ?_
  refine r_aload_n hC dX1_waterNow_2 rfl 0 rfl ?_
  refine r_getR hC clX1 31 3 32 rfl rfl rfl (hC.n rfl) rfl lf_X1_9 dX1_waterNow_3 ?_
  refine r_iconst (v := 0) hC dX1_waterNow_6 (by decide) ?_
  refine r_gd (fun g1 => ?_)
  refine r_iald hC 32 8 rfl rfl g1 dX1_waterNow_7 ?_
  refine r_nmI (fun v2 => ?_)
  refine r_callVV hC (b := 31) (ci := 1) (st := []) [.int 0, .int v2] rfl (hC.n rfl) rfl rfl (c_X1_nameAll hC.w σ 0 v2) yk_X1_nameAll lm_X1_116 rfl ⟨rfl, rfl⟩ rfl dX1_waterNow_8 (fun σ3 => ?_)
  refine r_aload_n hC dX1_waterNow_11 rfl 0 rfl ?_
  refine r_getD hC clX1 31 2 rfl rfl rfl (hC.n rfl) rfl lf_X1_37 dX1_waterNow_12 ?_
  refine r_jn (T := fun (j7 : Int32 → St → Option (Int32 × St)) => ∀ (t5 : Int32) (σ6 : St), RF X w (Aw w (xs_ X).heap.size) 2 (QI X w) (j7 t5 σ6) 38 [(0, .ref (wA w 31))] [.int t5] σ6) ?_ (fun j7 hj7 => ?_)
  · intro t5 σ6
    refine r_istore_n (lv' := [(1, .int t5), (0, .ref (wA w 31))]) hC dX1_waterNow_38 rfl (by decide) rfl ?_
    refine r_iconst (v := 0) hC dX1_waterNow_39 (by decide) ?_
    refine r_ldc (v := 99999) hC lc_X1_111 dX1_waterNow_40 ?_
    refine r_iload_n hC dX1_waterNow_42 rfl 0 rfl ?_
    refine r_mmin hC (by decide) (Nat.le_of_ble_eq_true rfl) lm_X1_99 ws_mmin wi_math wc_mmin dX1_waterNow_43 ?_
    refine r_nmI (fun v8 => ?_)
    refine r_mmax hC (by decide) (Nat.le_of_ble_eq_true rfl) lm_X1_124 ws_mmax wi_math wc_mmax dX1_waterNow_46 ?_
    refine r_nmI (fun v9 => ?_)
    refine r_istore_n (lv' := [(1, .int v9), (0, .ref (wA w 31))]) hC dX1_waterNow_49 rfl (by decide) rfl ?_
    refine r_iconst (v := 0) hC dX1_waterNow_50 (by decide) ?_
    refine r_iload_n hC dX1_waterNow_51 rfl 0 rfl ?_
    refine r_aload_n hC dX1_waterNow_52 rfl 1 rfl ?_
    refine r_getR hC clX1 31 1 6 rfl rfl rfl (hC.n rfl) rfl lf_X1_33 dX1_waterNow_53 ?_
    refine r_getI hC clX0 6 3 rfl rfl (hC.n rfl) rfl lf_X1_127 dX1_waterNow_56 ?_
    refine r_nmI (fun v10 => ?_)
    refine r_imul hC dX1_waterNow_59 ?_
    refine r_bipush (v := 100) hC dX1_waterNow_60 (by decide) ?_
    refine r_idiv hC dX1_waterNow_62 (by decide) ?_
    refine r_aload_n hC dX1_waterNow_63 rfl 1 rfl ?_
    refine r_getR hC clX1 31 1 6 rfl rfl rfl (hC.n rfl) rfl lf_X1_33 dX1_waterNow_64 ?_
    refine r_getI hC clX0 6 4 rfl rfl (hC.n rfl) rfl lf_X1_130 dX1_waterNow_67 ?_
    refine r_nmI (fun v11 => ?_)
    refine r_iadd hC dX1_waterNow_70 ?_
    refine r_nmI (fun v12 => ?_)
    refine r_mmax hC (by decide) (Nat.le_of_ble_eq_true rfl) lm_X1_124 ws_mmax wi_math wc_mmax dX1_waterNow_71 ?_
    refine r_nmI (fun v13 => ?_)
    exact r_iret hC hret rfl dX1_waterNow_74
  · refine r_mo ?_ (fun c4 => ?_)
    · refine r_ifnonnullN hC dX1_waterNow_15 ?_
      refine r_iconst (v := 0) hC dX1_waterNow_18 (by decide) ?_
      refine r_goto hC 38 dX1_waterNow_19 (by decide) ?_
      exact r_lv [0] rfl (hj7 0 σ3)
    · refine r_ifnonnull hC 22 dX1_waterNow_15 (by decide) ?_
      refine r_aload_n hC dX1_waterNow_22 rfl 0 rfl ?_
      refine r_getD hC clX1 31 2 rfl rfl rfl (hC.n rfl) rfl lf_X1_37 dX1_waterNow_23 ?_
      refine r_mo ?_ (fun c14 => ?_)
      · exact r_none
      · refine r_gd (fun g15 => ?_)
        refine r_iconst (v := 0) hC dX1_waterNow_26 (by decide) ?_
        refine r_aload_n hC dX1_waterNow_27 rfl 0 rfl ?_
        refine r_getR hC clX1 31 5 34 rfl rfl rfl (hC.n rfl) rfl lf_X1_20 dX1_waterNow_28 ?_
        refine r_aload_n hC dX1_waterNow_31 rfl 0 rfl ?_
        refine r_getR hC clX1 31 6 35 rfl rfl rfl (hC.n rfl) rfl lf_X1_23 dX1_waterNow_32 ?_
        refine r_callVI hC (b := c14) (ci := 6) (st := []) [.int 0, .ref (wA w 34), .ref (wA w 35)] g15.1 (Nat.lt_of_succ_lt (Nat.lt_of_lt_of_le g15.2 hnc)) rfl rfl (c_X6_valueOf hC.w σ3 c14 0 g15.1 (Nat.lt_of_lt_of_le g15.2 hnc)) yk_X6_valueOf lm_X1_120 rfl ⟨rfl, rfl⟩ rfl dX1_waterNow_35 (fun v16 σ17 => ?_)
        exact r_lv [0] rfl (hj7 v16 σ17)
set_option maxHeartbeats 4000000 in
set_option maxRecDepth 100000 in
theorem c_X1_driveOf {l : Launch} {w : Wd} (hW : HWd w shX rX 66) {nc : Nat} (hnc : nc ≤ wN w) (σ : St) (a2 : Int32) (a3 : Int32) (a4 : Int32)  : ∀ res, f_X1_driveOf nc σ a2 a3 a4 = some res → MtI l yX1_driveOf cX1_driveOf 6 .int 2 52 w [.ref (wA w 31), .int a2, .int a3, .int a4] σ res := by
  refine mt_I (by decide) rfl hW (fun X hl0 hC hret => ?_)
  show RF X w (Aw w (xs_ X).heap.size) 6 (QI X w) (f_X1_driveOf nc σ a2 a3 a4) 0 [(0, .ref (wA w 31)), (1, .int a2), (2, .int a3), (3, .int a4)] [] σ
  unfold f_X1_driveOf
  refine r_aload_n hC dX1_driveOf_0 rfl 0 rfl ?_
  refine r_iload_n hC dX1_driveOf_1 rfl 1 rfl ?_
  refine r_iload_n hC dX1_driveOf_2 rfl 2 rfl ?_
  refine r_callVV hC (b := 31) (ci := 1) (st := []) [.int a2, .int a3] rfl (hC.n rfl) rfl rfl (c_X1_nameAll hC.w σ a2 a3) yk_X1_nameAll lm_X1_116 rfl ⟨rfl, rfl⟩ rfl dX1_driveOf_3 (fun σ1 => ?_)
  refine r_aload_n hC dX1_driveOf_6 rfl 0 rfl ?_
  refine r_getD hC clX1 31 2 rfl rfl rfl (hC.n rfl) rfl lf_X1_37 dX1_driveOf_7 ?_
  refine r_jn (T := fun (j5 : Int32 → St → Option (Int32 × St)) => ∀ (t3 : Int32) (σ4 : St), RF X w (Aw w (xs_ X).heap.size) 6 (QI X w) (j5 t3 σ4) 33 [(0, .ref (wA w 31)), (1, .int a2), (2, .int a3), (3, .int a4)] [.int t3] σ4) ?_ (fun j5 hj5 => ?_)
  · intro t3 σ4
    refine r_istore (lv' := [(4, .int t3), (0, .ref (wA w 31)), (1, .int a2), (2, .int a3), (3, .int a4)]) hC dX1_driveOf_33 (by decide) rfl ?_
    refine r_iconst (v := 0) hC dX1_driveOf_35 (by decide) ?_
    refine r_sipush (v := 999) hC dX1_driveOf_36 (by decide) ?_
    refine r_iload hC dX1_driveOf_39 0 rfl ?_
    refine r_mmin hC (by decide) (Nat.le_of_ble_eq_true rfl) lm_X1_99 ws_mmin wi_math wc_mmin dX1_driveOf_41 ?_
    refine r_nmI (fun v6 => ?_)
    refine r_mmax hC (by decide) (Nat.le_of_ble_eq_true rfl) lm_X1_124 ws_mmax wi_math wc_mmax dX1_driveOf_44 ?_
    refine r_nmI (fun v7 => ?_)
    refine r_istore (lv' := [(4, .int v7), (0, .ref (wA w 31)), (1, .int a2), (2, .int a3), (3, .int a4)]) hC dX1_driveOf_47 (by decide) rfl ?_
    refine r_aload_n hC dX1_driveOf_49 rfl 1 rfl ?_
    refine r_getR hC clX1 31 9 36 rfl rfl rfl (hC.n rfl) rfl lf_X1_26 dX1_driveOf_50 ?_
    refine r_iload_n hC dX1_driveOf_53 rfl 3 rfl ?_
    refine r_gd (fun g8 => ?_)
    refine r_iald hC 36 16 rfl rfl g8 dX1_driveOf_54 ?_
    refine r_nmI (fun v9 => ?_)
    refine r_jn (T := fun (j11 : Int32 → Option (Int32 × St)) => ∀ (x10 : Int32), RF X w (Aw w (xs_ X).heap.size) 6 (QI X w) (j11 x10) 64 [(0, .ref (wA w 31)), (1, .int a2), (2, .int a3), (3, .int a4), (4, .int x10)] [] σ4) ?_ (fun j11 hj11 => ?_)
    · intro x10
      refine r_iconst (v := 0) hC dX1_driveOf_64 (by decide) ?_
      refine r_aload_n hC dX1_driveOf_65 rfl 0 rfl ?_
      refine r_getR hC clX1 31 9 36 rfl rfl rfl (hC.n rfl) rfl lf_X1_26 dX1_driveOf_66 ?_
      refine r_iload_n hC dX1_driveOf_69 rfl 2 rfl ?_
      refine r_gd (fun g12 => ?_)
      refine r_iald hC 36 16 rfl rfl g12 dX1_driveOf_70 ?_
      refine r_nmI (fun v13 => ?_)
      refine r_iload_n hC dX1_driveOf_71 rfl 3 rfl ?_
      refine r_iload hC dX1_driveOf_72 4 rfl ?_
      refine r_callSP hC (st := [.int v13, .int 0]) [.int a4, .int x10] (c_X3_cost hC.w σ4 a4 x10) yk_X3_cost lm_X1_133 rfl ⟨rfl, rfl⟩ rfl dX1_driveOf_74 (fun v14 => ?_)
      refine r_isub hC dX1_driveOf_77 ?_
      refine r_nmI (fun v15 => ?_)
      refine r_mmax hC (by decide) (Nat.le_of_ble_eq_true rfl) lm_X1_124 ws_mmax wi_math wc_mmax dX1_driveOf_78 ?_
      refine r_nmI (fun v16 => ?_)
      refine r_istore (lv' := [(5, .int v16), (0, .ref (wA w 31)), (1, .int a2), (2, .int a3), (3, .int a4), (4, .int x10)]) hC dX1_driveOf_81 (by decide) rfl ?_
      refine r_aload_n hC dX1_driveOf_83 rfl 1 rfl ?_
      refine r_getR hC clX1 31 9 36 rfl rfl rfl (hC.n rfl) rfl lf_X1_26 dX1_driveOf_84 ?_
      refine r_iload_n hC dX1_driveOf_87 rfl 3 rfl ?_
      refine r_sipush (v := 9999) hC dX1_driveOf_88 (by decide) ?_
      refine r_iload hC dX1_driveOf_91 0 rfl ?_
      refine r_aload_n hC dX1_driveOf_93 rfl 1 rfl ?_
      refine r_getR hC clX1 31 0 1 rfl rfl rfl (hC.n rfl) rfl lf_X1_29 dX1_driveOf_94 ?_
      refine r_getR hC clX2 1 3 5 rfl rfl rfl (hC.n rfl) rfl lf_X1_136 dX1_driveOf_97 ?_
      refine r_iload_n hC dX1_driveOf_100 rfl 3 rfl ?_
      refine r_gd (fun g17 => ?_)
      refine r_iald hC 5 16 rfl rfl g17 dX1_driveOf_101 ?_
      refine r_nmI (fun v18 => ?_)
      refine r_iadd hC dX1_driveOf_102 ?_
      refine r_nmI (fun v19 => ?_)
      refine r_mmin hC (by decide) (Nat.le_of_ble_eq_true rfl) lm_X1_99 ws_mmin wi_math wc_mmin dX1_driveOf_103 ?_
      refine r_nmI (fun v20 => ?_)
      refine r_gd (fun g21 => ?_)
      refine r_iast hC 36 16 rfl rfl g21 dX1_driveOf_106 ?_
      refine r_nmS (fun σ22 => ?_)
      refine r_iload_n hC dX1_driveOf_107 rfl 4 rfl ?_
      refine r_iload hC dX1_driveOf_108 5 rfl ?_
      refine r_iload_n hC dX1_driveOf_110 rfl 2 rfl ?_
      refine r_callSP hC (st := []) [.int a4, .int x10, .int a2] (c_X3_pull hC.w σ22 a4 x10 a2) yk_X3_pull lm_X1_139 rfl ⟨rfl, rfl⟩ rfl dX1_driveOf_111 (fun v23 => ?_)
      refine r_aload_n hC dX1_driveOf_114 rfl 1 rfl ?_
      refine r_getR hC clX1 31 1 6 rfl rfl rfl (hC.n rfl) rfl lf_X1_33 dX1_driveOf_115 ?_
      refine r_getR hC clX0 6 2 9 rfl rfl rfl (hC.n rfl) rfl lf_X1_142 dX1_driveOf_118 ?_
      refine r_iload_n hC dX1_driveOf_121 rfl 2 rfl ?_
      refine r_gd (fun g24 => ?_)
      refine r_iald hC 9 8 rfl rfl g24 dX1_driveOf_122 ?_
      refine r_nmI (fun v25 => ?_)
      refine r_imul hC dX1_driveOf_123 ?_
      refine r_iconst (v := 4) hC dX1_driveOf_124 (by decide) ?_
      refine r_idiv hC dX1_driveOf_125 (by decide) ?_
      exact r_iret hC hret rfl dX1_driveOf_126
    · refine r_if_ne hC 64 dX1_driveOf_55 (by decide) (fun c26 => ?_) (fun c26 => ?_)
      · exact r_lv [1, 2, 3, 4, 0] rfl (hj11 v7)
      · refine r_iload hC dX1_driveOf_58 0 rfl ?_
        refine r_iconst (v := 2) hC dX1_driveOf_60 (by decide) ?_
        refine r_idiv hC dX1_driveOf_61 (by decide) ?_
        refine r_nmI (fun v27 => ?_)
        refine r_istore (lv' := [(4, .int v27), (0, .ref (wA w 31)), (1, .int a2), (2, .int a3), (3, .int a4)]) hC dX1_driveOf_62 (by decide) rfl ?_
        exact r_lv [1, 2, 3, 4, 0] rfl (hj11 v27)
  · refine r_mo ?_ (fun c2 => ?_)
    · refine r_ifnonnullN hC dX1_driveOf_10 ?_
      refine r_iconst (v := 0) hC dX1_driveOf_13 (by decide) ?_
      refine r_goto hC 33 dX1_driveOf_14 (by decide) ?_
      exact r_lv [0, 1, 2, 3] rfl (hj5 0 σ1)
    · refine r_ifnonnull hC 17 dX1_driveOf_10 (by decide) ?_
      refine r_aload_n hC dX1_driveOf_17 rfl 0 rfl ?_
      refine r_getD hC clX1 31 2 rfl rfl rfl (hC.n rfl) rfl lf_X1_37 dX1_driveOf_18 ?_
      refine r_mo ?_ (fun c28 => ?_)
      · exact r_none
      · refine r_gd (fun g29 => ?_)
        refine r_iconst (v := 1) hC dX1_driveOf_21 (by decide) ?_
        refine r_aload_n hC dX1_driveOf_22 rfl 0 rfl ?_
        refine r_getR hC clX1 31 5 34 rfl rfl rfl (hC.n rfl) rfl lf_X1_20 dX1_driveOf_23 ?_
        refine r_aload_n hC dX1_driveOf_26 rfl 0 rfl ?_
        refine r_getR hC clX1 31 6 35 rfl rfl rfl (hC.n rfl) rfl lf_X1_23 dX1_driveOf_27 ?_
        refine r_callVI hC (b := c28) (ci := 6) (st := []) [.int 1, .ref (wA w 34), .ref (wA w 35)] g29.1 (Nat.lt_of_succ_lt (Nat.lt_of_lt_of_le g29.2 hnc)) rfl rfl (c_X6_valueOf hC.w σ1 c28 1 g29.1 (Nat.lt_of_lt_of_le g29.2 hnc)) yk_X6_valueOf lm_X1_120 rfl ⟨rfl, rfl⟩ rfl dX1_driveOf_30 (fun v30 σ31 => ?_)
        exact r_lv [0, 1, 2, 3] rfl (hj5 v30 σ31)
set_option maxHeartbeats 4000000 in
set_option maxRecDepth 100000 in
theorem w_X1_pullOnce_l10 {X : Mc} {w : Wd} (hC : Cok X w (Aw w (xs_ X).heap.size) yX1_pullOnce.cls cX1_pullOnce 7 3 77 shX rX 66) (hret : (xmeth X).sig.returnType = none) (a2 : Int32) (nc : Nat) (v1 : Int32) (σ2 : St) (hnc : nc ≤ wN w)  (K8 : Int32 → St → Option St) (hK8 : ∀ (x6 : Int32) (σ7 : St), RF X w (Aw w (xs_ X).heap.size) 7 (QV X w) (K8 x6 σ7) 121 [(0, .ref (wA w 31)), (1, .int a2), (2, .int v1), (3, .int x6)] [] σ7) : ∀ (n : Nat) (x3 : Int32) (x4 : Int32) (σ5 : St), RF X w (Aw w (xs_ X).heap.size) 7 (QV X w) (f_X1_pullOnce_l10 a2 nc K8 n x3 x4 σ5) 10 [(0, .ref (wA w 31)), (1, .int a2), (2, .int v1), (3, .int x3), (4, .int x4)] [] σ5 := by
  intro n
  induction n with
  | zero => intro x3 x4 σ5; rw [f_X1_pullOnce_l10]; exact r_none
  | succ n ih =>
    intro x3 x4 σ5
    rw [f_X1_pullOnce_l10]
    refine r_iload hC dX1_pullOnce_10 4 rfl ?_
    refine r_bipush (v := 8) hC dX1_pullOnce_12 (by decide) ?_
    refine r_icmp_ge hC 121 dX1_pullOnce_14 (by decide) (fun c9 => ?_) (fun c9 => ?_)
    · exact r_lv [0, 1, 2, 3] rfl (hK8 x3 σ5)
    · refine r_aload_n hC dX1_pullOnce_17 rfl 0 rfl ?_
      refine r_getR hC clX1 31 4 33 rfl rfl rfl (hC.n rfl) rfl lf_X1_15 dX1_pullOnce_18 ?_
      refine r_iload hC dX1_pullOnce_21 4 rfl ?_
      refine r_aload_n hC dX1_pullOnce_23 rfl 0 rfl ?_
      refine r_getR hC clX1 31 0 1 rfl rfl rfl (hC.n rfl) rfl lf_X1_29 dX1_pullOnce_24 ?_
      refine r_aload_n hC dX1_pullOnce_27 rfl 0 rfl ?_
      refine r_getR hC clX1 31 3 32 rfl rfl rfl (hC.n rfl) rfl lf_X1_9 dX1_pullOnce_28 ?_
      refine r_iload hC dX1_pullOnce_31 4 rfl ?_
      refine r_gd (fun g10 => ?_)
      refine r_iald hC 32 8 rfl rfl g10 dX1_pullOnce_33 ?_
      refine r_nmI (fun v11 => ?_)
      refine r_callVP hC (b := 1) (ci := 2) (st := [.int x4, .ref (wA w 33)]) [.int v11] rfl (hC.n rfl) rfl rfl (c_X2_has hC.w σ5 v11) yk_X2_has lm_X1_88 rfl ⟨rfl, rfl⟩ rfl dX1_pullOnce_34 (fun v12 => ?_)
      refine r_jn (T := fun (j15 : Int32 → St → Option St) => ∀ (t13 : Int32) (σ14 : St), RF X w (Aw w (xs_ X).heap.size) 7 (QV X w) (j15 t13 σ14) 58 [(0, .ref (wA w 31)), (1, .int a2), (2, .int v1), (3, .int x3), (4, .int x4)] [.int t13, .int x4, .ref (wA w 33)] σ14) ?_ (fun j15 hj15 => ?_)
      · intro t13 σ14
        refine r_gd (fun g16 => ?_)
        refine r_iast hC 33 8 rfl rfl g16 dX1_pullOnce_58 ?_
        refine r_nmS (fun σ17 => ?_)
        refine r_iload_n hC dX1_pullOnce_59 rfl 3 rfl ?_
        refine r_aload_n hC dX1_pullOnce_60 rfl 0 rfl ?_
        refine r_getR hC clX1 31 4 33 rfl rfl rfl (hC.n rfl) rfl lf_X1_15 dX1_pullOnce_61 ?_
        refine r_iload hC dX1_pullOnce_64 4 rfl ?_
        refine r_gd (fun g18 => ?_)
        refine r_iald hC 33 8 rfl rfl g18 dX1_pullOnce_66 ?_
        refine r_nmI (fun v19 => ?_)
        refine r_iadd hC dX1_pullOnce_67 ?_
        refine r_nmI (fun v20 => ?_)
        refine r_istore_n (lv' := [(3, .int v20), (0, .ref (wA w 31)), (1, .int a2), (2, .int v1), (4, .int x4)]) hC dX1_pullOnce_68 rfl (by decide) rfl ?_
        refine r_aload_n hC dX1_pullOnce_69 rfl 1 rfl ?_
        refine r_getR hC clX1 31 4 33 rfl rfl rfl (hC.n rfl) rfl lf_X1_15 dX1_pullOnce_70 ?_
        refine r_iload hC dX1_pullOnce_73 4 rfl ?_
        refine r_gd (fun g21 => ?_)
        refine r_iald hC 33 8 rfl rfl g21 dX1_pullOnce_75 ?_
        refine r_nmI (fun v22 => ?_)
        refine r_iload hC dX1_pullOnce_76 4 rfl ?_
        refine r_iconst (v := 1) hC dX1_pullOnce_78 (by decide) ?_
        refine r_iadd hC dX1_pullOnce_79 ?_
        refine r_imul hC dX1_pullOnce_80 ?_
        refine r_nmI (fun v23 => ?_)
        refine r_istore (lv' := [(5, .int v23), (3, .int v20), (0, .ref (wA w 31)), (1, .int a2), (2, .int v1), (4, .int x4)]) hC dX1_pullOnce_81 (by decide) rfl ?_
        refine r_aload_n hC dX1_pullOnce_83 rfl 2 rfl ?_
        refine r_dup hC dX1_pullOnce_84 rfl ?_
        refine r_getL hC clX1 31 12 rfl rfl (hC.n rfl) rfl lf_X1_71 dX1_pullOnce_85 ?_
        refine r_nmL (fun v24 => ?_)
        refine r_aload_n hC dX1_pullOnce_88 rfl 2 rfl ?_
        refine r_getR hC clX1 31 1 6 rfl rfl rfl (hC.n rfl) rfl lf_X1_33 dX1_pullOnce_89 ?_
        refine r_getR hC clX0 6 1 8 rfl rfl rfl (hC.n rfl) rfl lf_X1_96 dX1_pullOnce_92 ?_
        refine r_iload hC dX1_pullOnce_95 5 rfl ?_
        refine r_gd (fun g25 => ?_)
        refine r_iald hC 8 8 rfl rfl g25 dX1_pullOnce_97 ?_
        refine r_nmI (fun v26 => ?_)
        refine r_jn (T := fun (j28 : Int64 → Option St) => ∀ (t27 : Int64), RF X w (Aw w (xs_ X).heap.size) 7 (QV X w) (j28 t27) 111 [(0, .ref (wA w 31)), (1, .int a2), (2, .int v1), (3, .int v20), (4, .int x4)] [.long t27, .long v24, .ref (wA w 31)] σ17) ?_ (fun j28 hj28 => ?_)
        · intro t27
          refine r_ladd hC dX1_pullOnce_111 ?_
          refine r_putL hC clX1 31 12 rfl rfl rfl (hC.n rfl) rfl rfl lf_X1_71 dX1_pullOnce_112 ?_
          refine r_nmS (fun σ29 => ?_)
          refine r_iinc (v := x4 + 1) (lv' := [(4, .int (x4 + 1)), (0, .ref (wA w 31)), (1, .int a2), (2, .int v1), (3, .int v20)]) hC dX1_pullOnce_115 4 rfl rfl (by decide) rfl ?_
          refine r_goto hC 10 dX1_pullOnce_118 (by decide) ?_
          exact r_lv [1, 2, 3, 4, 0] rfl (ih v20 (x4 + 1) σ29)
        · refine r_if_ne hC 107 dX1_pullOnce_98 (by decide) (fun c30 => ?_) (fun c30 => ?_)
          · refine r_iload hC dX1_pullOnce_107 0 rfl ?_
            refine r_ineg hC dX1_pullOnce_109 ?_
            refine r_i2l hC dX1_pullOnce_110 ?_
            exact r_lv [2, 3, 4, 1, 5] rfl (hj28 (Int32.toInt64 (-v23)))
          · refine r_iload hC dX1_pullOnce_101 0 rfl ?_
            refine r_i2l hC dX1_pullOnce_103 ?_
            refine r_goto hC 111 dX1_pullOnce_104 (by decide) ?_
            exact r_lv [2, 3, 4, 1, 5] rfl (hj28 (Int32.toInt64 v23))
      · refine r_if_eq hC 57 dX1_pullOnce_37 (by decide) (fun c31 => ?_) (fun c31 => ?_)
        · refine r_iconst (v := 0) hC dX1_pullOnce_57 (by decide) ?_
          exact r_lv [0, 1, 2, 3, 4] rfl (hj15 0 σ5)
        · refine r_aload_n hC dX1_pullOnce_40 rfl 0 rfl ?_
          refine r_iload hC dX1_pullOnce_41 4 rfl ?_
          refine r_aload_n hC dX1_pullOnce_43 rfl 0 rfl ?_
          refine r_getR hC clX1 31 3 32 rfl rfl rfl (hC.n rfl) rfl lf_X1_9 dX1_pullOnce_44 ?_
          refine r_iload hC dX1_pullOnce_47 4 rfl ?_
          refine r_gd (fun g32 => ?_)
          refine r_iald hC 32 8 rfl rfl g32 dX1_pullOnce_49 ?_
          refine r_nmI (fun v33 => ?_)
          refine r_iload_n hC dX1_pullOnce_50 rfl 1 rfl ?_
          refine r_callVI hC (b := 31) (ci := 1) (st := [.int x4, .ref (wA w 33)]) [.int x4, .int v33, .int a2] rfl (hC.n rfl) rfl rfl (c_X1_driveOf hC.w hnc σ5 x4 v33 a2) yk_X1_driveOf lm_X1_92 rfl ⟨rfl, rfl⟩ rfl dX1_pullOnce_51 (fun v34 σ35 => ?_)
          refine r_goto hC 58 dX1_pullOnce_54 (by decide) ?_
          exact r_lv [0, 1, 2, 3, 4] rfl (hj15 v34 σ35)
set_option maxHeartbeats 4000000 in
set_option maxRecDepth 100000 in
theorem c_X1_pullOnce {l : Launch} {w : Wd} (hW : HWd w shX rX 66) {nc : Nat} (hnc : nc ≤ wN w) (σ : St) (a2 : Int32)  : ∀ res, f_X1_pullOnce nc σ a2 = some res → MtV l yX1_pullOnce cX1_pullOnce 7 3 77 w [.ref (wA w 31), .int a2] σ res := by
  refine mt_V (by decide) rfl hW (fun X hl0 hC hret => ?_)
  show RF X w (Aw w (xs_ X).heap.size) 7 (QV X w) (f_X1_pullOnce nc σ a2) 0 [(0, .ref (wA w 31)), (1, .int a2)] [] σ
  unfold f_X1_pullOnce
  refine r_aload_n hC dX1_pullOnce_0 rfl 0 rfl ?_
  refine r_callVI hC (b := 31) (ci := 1) (st := []) [] rfl (hC.n rfl) rfl rfl (c_X1_waterNow hC.w hnc σ) yk_X1_waterNow lm_X1_84 rfl ⟨rfl, rfl⟩ rfl dX1_pullOnce_1 (fun v1 σ2 => ?_)
  refine r_istore_n (lv' := [(2, .int v1), (0, .ref (wA w 31)), (1, .int a2)]) hC dX1_pullOnce_4 rfl (by decide) rfl ?_
  refine r_iconst (v := 0) hC dX1_pullOnce_5 (by decide) ?_
  refine r_istore_n (lv' := [(3, .int 0), (2, .int v1), (0, .ref (wA w 31)), (1, .int a2)]) hC dX1_pullOnce_6 rfl (by decide) rfl ?_
  refine r_iconst (v := 0) hC dX1_pullOnce_7 (by decide) ?_
  refine r_istore (lv' := [(4, .int 0), (3, .int 0), (2, .int v1), (0, .ref (wA w 31)), (1, .int a2)]) hC dX1_pullOnce_8 (by decide) rfl ?_
  refine r_lv [3, 4, 2, 1, 0] rfl ?_
  refine w_X1_pullOnce_l10 hC hret a2 nc v1 σ2 hnc _ ?_ FU 0 0 σ2
  · intro x6 σ7
    refine r_aload_n hC dX1_pullOnce_121 rfl 0 rfl ?_
    refine r_getI hC clX1 31 10 rfl rfl (hC.n rfl) rfl lf_X1_64 dX1_pullOnce_122 ?_
    refine r_nmI (fun v36 => ?_)
    refine r_istore (lv' := [(4, .int v36), (0, .ref (wA w 31)), (1, .int a2), (2, .int v1), (3, .int x6)]) hC dX1_pullOnce_125 (by decide) rfl ?_
    refine r_aload_n hC dX1_pullOnce_127 rfl 1 rfl ?_
    refine r_dup hC dX1_pullOnce_128 rfl ?_
    refine r_getI hC clX1 31 10 rfl rfl (hC.n rfl) rfl lf_X1_64 dX1_pullOnce_129 ?_
    refine r_nmI (fun v37 => ?_)
    refine r_aload_n hC dX1_pullOnce_132 rfl 1 rfl ?_
    refine r_getI hC clX1 31 7 rfl rfl (hC.n rfl) rfl lf_X1_57 dX1_pullOnce_133 ?_
    refine r_nmI (fun v38 => ?_)
    refine r_jn (T := fun (j40 : Int32 → Option St) => ∀ (t39 : Int32), RF X w (Aw w (xs_ X).heap.size) 7 (QV X w) (j40 t39) 152 [(0, .ref (wA w 31)), (1, .int a2), (2, .int v1), (4, .int v36)] [.int t39, .int v37, .ref (wA w 31)] σ7) ?_ (fun j40 hj40 => ?_)
    · intro t39
      refine r_iadd hC dX1_pullOnce_152 ?_
      refine r_putI hC clX1 31 10 rfl rfl rfl (hC.n rfl) rfl rfl lf_X1_64 dX1_pullOnce_153 ?_
      refine r_nmS (fun σ41 => ?_)
      refine r_iload_n hC dX1_pullOnce_156 rfl 2 rfl ?_
      refine r_aload_n hC dX1_pullOnce_157 rfl 0 rfl ?_
      refine r_getI hC clX1 31 10 rfl rfl (hC.n rfl) rfl lf_X1_64 dX1_pullOnce_158 ?_
      refine r_nmI (fun v42 => ?_)
      refine r_mmin hC (by decide) (Nat.le_of_ble_eq_true rfl) lm_X1_99 ws_mmin wi_math wc_mmin dX1_pullOnce_161 ?_
      refine r_nmI (fun v43 => ?_)
      refine r_istore (lv' := [(5, .int v43), (0, .ref (wA w 31)), (1, .int a2), (2, .int v1), (4, .int v36)]) hC dX1_pullOnce_164 (by decide) rfl ?_
      refine r_aload_n hC dX1_pullOnce_166 rfl 1 rfl ?_
      refine r_dup hC dX1_pullOnce_167 rfl ?_
      refine r_getI hC clX1 31 10 rfl rfl (hC.n rfl) rfl lf_X1_64 dX1_pullOnce_168 ?_
      refine r_nmI (fun v44 => ?_)
      refine r_iload hC dX1_pullOnce_171 0 rfl ?_
      refine r_isub hC dX1_pullOnce_173 ?_
      refine r_putI hC clX1 31 10 rfl rfl rfl (hC.n rfl) rfl rfl lf_X1_64 dX1_pullOnce_174 ?_
      refine r_nmS (fun σ45 => ?_)
      refine r_aload_n hC dX1_pullOnce_177 rfl 1 rfl ?_
      refine r_dup hC dX1_pullOnce_178 rfl ?_
      refine r_getL hC clX1 31 13 rfl rfl (hC.n rfl) rfl lf_X1_74 dX1_pullOnce_179 ?_
      refine r_nmL (fun v46 => ?_)
      refine r_iload hC dX1_pullOnce_182 0 rfl ?_
      refine r_i2l hC dX1_pullOnce_184 ?_
      refine r_ladd hC dX1_pullOnce_185 ?_
      refine r_putL hC clX1 31 13 rfl rfl rfl (hC.n rfl) rfl rfl lf_X1_74 dX1_pullOnce_186 ?_
      refine r_nmS (fun σ47 => ?_)
      refine r_iload hC dX1_pullOnce_189 4 rfl ?_
      refine r_iload_n hC dX1_pullOnce_191 rfl 2 rfl ?_
      refine r_callSP hC (st := [.int v36]) [.int a2] (c_X3_slips hC.w σ47 a2) yk_X3_slips lm_X1_105 rfl ⟨rfl, rfl⟩ rfl dX1_pullOnce_192 (fun v48 => ?_)
      refine r_imul hC dX1_pullOnce_195 ?_
      refine r_bipush (v := 100) hC dX1_pullOnce_196 (by decide) ?_
      refine r_idiv hC dX1_pullOnce_198 (by decide) ?_
      refine r_aload_n hC dX1_pullOnce_199 rfl 1 rfl ?_
      refine r_getI hC clX1 31 10 rfl rfl (hC.n rfl) rfl lf_X1_64 dX1_pullOnce_200 ?_
      refine r_nmI (fun v49 => ?_)
      refine r_mmin hC (by decide) (Nat.le_of_ble_eq_true rfl) lm_X1_99 ws_mmin wi_math wc_mmin dX1_pullOnce_203 ?_
      refine r_nmI (fun v50 => ?_)
      refine r_istore (lv' := [(6, .int v50), (5, .int v43), (0, .ref (wA w 31)), (1, .int a2), (2, .int v1), (4, .int v36)]) hC dX1_pullOnce_206 (by decide) rfl ?_
      refine r_aload_n hC dX1_pullOnce_208 rfl 2 rfl ?_
      refine r_dup hC dX1_pullOnce_209 rfl ?_
      refine r_getI hC clX1 31 10 rfl rfl (hC.n rfl) rfl lf_X1_64 dX1_pullOnce_210 ?_
      refine r_nmI (fun v51 => ?_)
      refine r_iload hC dX1_pullOnce_213 0 rfl ?_
      refine r_isub hC dX1_pullOnce_215 ?_
      refine r_putI hC clX1 31 10 rfl rfl rfl (hC.n rfl) rfl rfl lf_X1_64 dX1_pullOnce_216 ?_
      refine r_nmS (fun σ52 => ?_)
      refine r_aload_n hC dX1_pullOnce_219 rfl 2 rfl ?_
      refine r_dup hC dX1_pullOnce_220 rfl ?_
      refine r_getL hC clX1 31 14 rfl rfl (hC.n rfl) rfl lf_X1_77 dX1_pullOnce_221 ?_
      refine r_nmL (fun v53 => ?_)
      refine r_iload hC dX1_pullOnce_224 0 rfl ?_
      refine r_i2l hC dX1_pullOnce_226 ?_
      refine r_ladd hC dX1_pullOnce_227 ?_
      refine r_putL hC clX1 31 14 rfl rfl rfl (hC.n rfl) rfl rfl lf_X1_77 dX1_pullOnce_228 ?_
      refine r_nmS (fun σ54 => ?_)
      refine r_aload_n hC dX1_pullOnce_231 rfl 2 rfl ?_
      refine r_ldc (v := 99999) hC lc_X1_111 dX1_pullOnce_232 ?_
      refine r_aload_n hC dX1_pullOnce_234 rfl 2 rfl ?_
      refine r_getI hC clX1 31 10 rfl rfl (hC.n rfl) rfl lf_X1_64 dX1_pullOnce_235 ?_
      refine r_nmI (fun v55 => ?_)
      refine r_mmin hC (by decide) (Nat.le_of_ble_eq_true rfl) lm_X1_99 ws_mmin wi_math wc_mmin dX1_pullOnce_238 ?_
      refine r_nmI (fun v56 => ?_)
      refine r_putI hC clX1 31 10 rfl rfl rfl (hC.n rfl) rfl rfl lf_X1_64 dX1_pullOnce_241 ?_
      refine r_nmS (fun σ57 => ?_)
      refine r_aload_n hC dX1_pullOnce_244 rfl 2 rfl ?_
      refine r_dup hC dX1_pullOnce_245 rfl ?_
      refine r_getL hC clX1 31 11 rfl rfl (hC.n rfl) rfl lf_X1_67 dX1_pullOnce_246 ?_
      refine r_nmL (fun v58 => ?_)
      refine r_aload_n hC dX1_pullOnce_249 rfl 2 rfl ?_
      refine r_getI hC clX1 31 10 rfl rfl (hC.n rfl) rfl lf_X1_64 dX1_pullOnce_250 ?_
      refine r_nmI (fun v59 => ?_)
      refine r_i2l hC dX1_pullOnce_253 ?_
      refine r_ladd hC dX1_pullOnce_254 ?_
      refine r_putL hC clX1 31 11 rfl rfl rfl (hC.n rfl) rfl rfl lf_X1_67 dX1_pullOnce_255 ?_
      refine r_nmS (fun σ60 => ?_)
      refine r_aload_n hC dX1_pullOnce_258 rfl 2 rfl ?_
      refine r_dup hC dX1_pullOnce_259 rfl ?_
      refine r_getI hC clX1 31 8 rfl rfl (hC.n rfl) rfl lf_X1_61 dX1_pullOnce_260 ?_
      refine r_nmI (fun v61 => ?_)
      refine r_iconst (v := 1) hC dX1_pullOnce_263 (by decide) ?_
      refine r_iadd hC dX1_pullOnce_264 ?_
      refine r_putI hC clX1 31 8 rfl rfl rfl (hC.n rfl) rfl rfl lf_X1_61 dX1_pullOnce_265 ?_
      refine r_nmS (fun σ62 => ?_)
      exact r_vret hC hret dX1_pullOnce_268
    · refine r_if_le hC 151 dX1_pullOnce_136 (by decide) (fun c63 => ?_) (fun c63 => ?_)
      · refine r_iconst (v := 0) hC dX1_pullOnce_151 (by decide) ?_
        exact r_lv [1, 2, 3, 0] rfl (hj40 0)
      · refine r_iload_n hC dX1_pullOnce_139 rfl 4 rfl ?_
        refine r_bipush (v := 100) hC dX1_pullOnce_140 (by decide) ?_
        refine r_imul hC dX1_pullOnce_142 ?_
        refine r_aload_n hC dX1_pullOnce_143 rfl 1 rfl ?_
        refine r_getI hC clX1 31 7 rfl rfl (hC.n rfl) rfl lf_X1_57 dX1_pullOnce_144 ?_
        refine r_nmI (fun v64 => ?_)
        refine r_gd (fun g65 => ?_)
        refine r_idiv hC dX1_pullOnce_147 g65 ?_
        refine r_goto hC 152 dX1_pullOnce_148 (by decide) ?_
        exact r_lv [1, 2, 3, 0] rfl (hj40 ((x6 * 100) / v64))
set_option maxHeartbeats 4000000 in
set_option maxRecDepth 100000 in
theorem w_X1_pullAll_l2 {X : Mc} {w : Wd} (hC : Cok X w (Aw w (xs_ X).heap.size) yX1_pullAll.cls cX1_pullAll 4 4 103 shX rX 66) (hret : (xmeth X).sig.returnType = none) (kk : Nat) (a3 : Int32) (nc : Nat) (σ : St) (hnc : nc ≤ wN w) (hkk : shX kk = (1, 200)) (bkk : Nat.blt kk 66 = true)    : ∀ (n : Nat) (x1 : Int32) (σ2 : St), RF X w (Aw w (xs_ X).heap.size) 4 (QV X w) (f_X1_pullAll_l2 kk a3 nc n x1 σ2) 2 [(0, .ref (wA w 31)), (1, .ref (wA w kk)), (2, .int a3), (3, .int x1)] [] σ2 := by
  intro n
  induction n with
  | zero => intro x1 σ2; rw [f_X1_pullAll_l2]; exact r_none
  | succ n ih =>
    intro x1 σ2
    rw [f_X1_pullAll_l2]
    refine r_iload_n hC dX1_pullAll_2 rfl 3 rfl ?_
    refine r_iload_n hC dX1_pullAll_3 rfl 2 rfl ?_
    refine r_icmp_ge hC 26 dX1_pullAll_4 (by decide) (fun c3 => ?_) (fun c3 => ?_)
    · exact r_vret hC hret dX1_pullAll_26
    · refine r_iload_n hC dX1_pullAll_7 rfl 3 rfl ?_
      refine r_aload_n hC dX1_pullAll_8 rfl 1 rfl ?_
      refine r_alen1 (v := 200) hC kk 200 hkk bkk (by decide) dX1_pullAll_9 ?_
      refine r_icmp_ge hC 26 dX1_pullAll_10 (by decide) (fun c4 => ?_) (fun c4 => ?_)
      · exact r_vret hC hret dX1_pullAll_26
      · refine r_aload_n hC dX1_pullAll_13 rfl 0 rfl ?_
        refine r_aload_n hC dX1_pullAll_14 rfl 1 rfl ?_
        refine r_iload_n hC dX1_pullAll_15 rfl 3 rfl ?_
        refine r_gd (fun g5 => ?_)
        refine r_iald hC kk 200 hkk bkk g5 dX1_pullAll_16 ?_
        refine r_nmI (fun v6 => ?_)
        refine r_callVV hC (b := 31) (ci := 1) (st := []) [.int v6] rfl (hC.n rfl) rfl rfl (c_X1_pullOnce hC.w hnc σ2 v6) yk_X1_pullOnce lm_X1_80 rfl ⟨rfl, rfl⟩ rfl dX1_pullAll_17 (fun σ7 => ?_)
        refine r_iinc (v := x1 + 1) (lv' := [(3, .int (x1 + 1)), (0, .ref (wA w 31)), (1, .ref (wA w kk)), (2, .int a3)]) hC dX1_pullAll_20 3 rfl rfl (by decide) rfl ?_
        refine r_goto hC 2 dX1_pullAll_23 (by decide) ?_
        exact r_lv [1, 2, 3, 0] rfl (ih (x1 + 1) σ7)
set_option maxHeartbeats 4000000 in
set_option maxRecDepth 100000 in
theorem c_X1_pullAll {l : Launch} {w : Wd} (hW : HWd w shX rX 66) {nc : Nat} (hnc : nc ≤ wN w) (σ : St) (kk : Nat) (a3 : Int32) (hkk : shX kk = (1, 200)) (bkk : Nat.blt kk 66 = true) : ∀ res, f_X1_pullAll nc σ kk a3 = some res → MtV l yX1_pullAll cX1_pullAll 4 4 103 w [.ref (wA w 31), .ref (wA w kk), .int a3] σ res := by
  refine mt_V (by decide) rfl hW (fun X hl0 hC hret => ?_)
  show RF X w (Aw w (xs_ X).heap.size) 4 (QV X w) (f_X1_pullAll nc σ kk a3) 0 [(0, .ref (wA w 31)), (1, .ref (wA w kk)), (2, .int a3)] [] σ
  unfold f_X1_pullAll
  refine r_iconst (v := 0) hC dX1_pullAll_0 (by decide) ?_
  refine r_istore_n (lv' := [(3, .int 0), (0, .ref (wA w 31)), (1, .ref (wA w kk)), (2, .int a3)]) hC dX1_pullAll_1 rfl (by decide) rfl ?_
  refine r_lv [1, 2, 3, 0] rfl ?_
  exact w_X1_pullAll_l2 hC hret kk a3 nc σ hnc hkk bkk FU 0 σ
set_option maxHeartbeats 4000000 in
set_option maxRecDepth 100000 in
theorem w_X1_pullMany_l2 {X : Mc} {w : Wd} (hC : Cok X w (Aw w (xs_ X).heap.size) yX1_pullMany.cls cX1_pullMany 4 4 103 shX rX 66) (hret : (xmeth X).sig.returnType = none) (a2 : Int32) (a3 : Int32) (nc : Nat) (σ : St) (hnc : nc ≤ wN w)    : ∀ (n : Nat) (x1 : Int32) (σ2 : St), RF X w (Aw w (xs_ X).heap.size) 4 (QV X w) (f_X1_pullMany_l2 a2 a3 nc n x1 σ2) 2 [(0, .ref (wA w 31)), (1, .int a2), (2, .int a3), (3, .int x1)] [] σ2 := by
  intro n
  induction n with
  | zero => intro x1 σ2; rw [f_X1_pullMany_l2]; exact r_none
  | succ n ih =>
    intro x1 σ2
    rw [f_X1_pullMany_l2]
    refine r_iload_n hC dX1_pullMany_2 rfl 3 rfl ?_
    refine r_iload_n hC dX1_pullMany_3 rfl 2 rfl ?_
    refine r_icmp_ge hC 18 dX1_pullMany_4 (by decide) (fun c3 => ?_) (fun c3 => ?_)
    · exact r_vret hC hret dX1_pullMany_18
    · refine r_aload_n hC dX1_pullMany_7 rfl 0 rfl ?_
      refine r_iload_n hC dX1_pullMany_8 rfl 1 rfl ?_
      refine r_callVV hC (b := 31) (ci := 1) (st := []) [.int a2] rfl (hC.n rfl) rfl rfl (c_X1_pullOnce hC.w hnc σ2 a2) yk_X1_pullOnce lm_X1_80 rfl ⟨rfl, rfl⟩ rfl dX1_pullMany_9 (fun σ4 => ?_)
      refine r_iinc (v := x1 + 1) (lv' := [(3, .int (x1 + 1)), (0, .ref (wA w 31)), (1, .int a2), (2, .int a3)]) hC dX1_pullMany_12 3 rfl rfl (by decide) rfl ?_
      refine r_goto hC 2 dX1_pullMany_15 (by decide) ?_
      exact r_lv [1, 2, 3, 0] rfl (ih (x1 + 1) σ4)
set_option maxHeartbeats 4000000 in
set_option maxRecDepth 100000 in
theorem c_X1_pullMany {l : Launch} {w : Wd} (hW : HWd w shX rX 66) {nc : Nat} (hnc : nc ≤ wN w) (σ : St) (a2 : Int32) (a3 : Int32)  : ∀ res, f_X1_pullMany nc σ a2 a3 = some res → MtV l yX1_pullMany cX1_pullMany 4 4 103 w [.ref (wA w 31), .int a2, .int a3] σ res := by
  refine mt_V (by decide) rfl hW (fun X hl0 hC hret => ?_)
  show RF X w (Aw w (xs_ X).heap.size) 4 (QV X w) (f_X1_pullMany nc σ a2 a3) 0 [(0, .ref (wA w 31)), (1, .int a2), (2, .int a3)] [] σ
  unfold f_X1_pullMany
  refine r_iconst (v := 0) hC dX1_pullMany_0 (by decide) ?_
  refine r_istore_n (lv' := [(3, .int 0), (0, .ref (wA w 31)), (1, .int a2), (2, .int a3)]) hC dX1_pullMany_1 rfl (by decide) rfl ?_
  refine r_lv [1, 2, 3, 0] rfl ?_
  exact w_X1_pullMany_l2 hC hret a2 a3 nc σ hnc FU 0 σ
set_option maxHeartbeats 4000000 in
set_option maxRecDepth 100000 in
theorem w_X1_wagsBy_l5 {X : Mc} {w : Wd} (hC : Cok X w (Aw w (xs_ X).heap.size) yX1_wagsBy.cls cX1_wagsBy 6 1 24 shX rX 66) (hret : (xmeth X).sig.returnType = some .long) (σ : St) (a2 : Int32)   (K4 : Int64 → Option Int64) (hK4 : ∀ (x3 : Int64), RF X w (Aw w (xs_ X).heap.size) 6 (fun r => QL X w (r, σ)) (K4 x3) 54 [(2, .long x3)] [] σ) : ∀ (n : Nat) (x1 : Int64) (x2 : Int32), RF X w (Aw w (xs_ X).heap.size) 6 (fun r => QL X w (r, σ)) (f_X1_wagsBy_l5 σ a2 K4 n x1 x2) 5 [(0, .ref (wA w 31)), (1, .int a2), (2, .long x1), (4, .int x2)] [] σ := by
  intro n
  induction n with
  | zero => intro x1 x2; rw [f_X1_wagsBy_l5]; exact r_none
  | succ n ih =>
    intro x1 x2
    rw [f_X1_wagsBy_l5]
    refine r_iload hC dX1_wagsBy_5 3 rfl ?_
    refine r_bipush (v := 8) hC dX1_wagsBy_7 (by decide) ?_
    refine r_icmp_ge hC 54 dX1_wagsBy_9 (by decide) (fun c5 => ?_) (fun c5 => ?_)
    · exact r_lv [2] rfl (hK4 x1)
    · refine r_aload_n hC dX1_wagsBy_12 rfl 0 rfl ?_
      refine r_getR hC clX1 31 4 33 rfl rfl rfl (hC.n rfl) rfl lf_X1_15 dX1_wagsBy_13 ?_
      refine r_iload hC dX1_wagsBy_16 3 rfl ?_
      refine r_gd (fun g6 => ?_)
      refine r_iald hC 33 8 rfl rfl g6 dX1_wagsBy_18 ?_
      refine r_nmI (fun v7 => ?_)
      refine r_iload hC dX1_wagsBy_19 3 rfl ?_
      refine r_iconst (v := 1) hC dX1_wagsBy_21 (by decide) ?_
      refine r_iadd hC dX1_wagsBy_22 ?_
      refine r_imul hC dX1_wagsBy_23 ?_
      refine r_nmI (fun v8 => ?_)
      refine r_istore (lv' := [(5, .int v8), (0, .ref (wA w 31)), (1, .int a2), (2, .long x1), (4, .int x2)]) hC dX1_wagsBy_24 (by decide) rfl ?_
      refine r_lload_n hC dX1_wagsBy_26 rfl 3 rfl ?_
      refine r_iload_n hC dX1_wagsBy_27 rfl 2 rfl ?_
      refine r_iload hC dX1_wagsBy_28 4 rfl ?_
      refine r_ishr hC dX1_wagsBy_30 ?_
      refine r_iconst (v := 1) hC dX1_wagsBy_31 (by decide) ?_
      refine r_iand hC dX1_wagsBy_32 ?_
      refine r_jn (T := fun (j10 : Int64 → Option Int64) => ∀ (t9 : Int64), RF X w (Aw w (xs_ X).heap.size) 6 (fun r => QL X w (r, σ)) (j10 t9) 46 [(0, .ref (wA w 31)), (1, .int a2), (4, .int x2)] [.long t9, .long x1] σ) ?_ (fun j10 hj10 => ?_)
      · intro t9
        refine r_ladd hC dX1_wagsBy_46 ?_
        refine r_nmL (fun v11 => ?_)
        refine r_lstore_n (lv' := [(2, .long v11), (0, .ref (wA w 31)), (1, .int a2), (4, .int x2)]) hC dX1_wagsBy_47 rfl (by decide) rfl ?_
        refine r_iinc (v := x2 + 1) (lv' := [(4, .int (x2 + 1)), (2, .long v11), (0, .ref (wA w 31)), (1, .int a2)]) hC dX1_wagsBy_48 3 rfl rfl (by decide) rfl ?_
        refine r_goto hC 5 dX1_wagsBy_51 (by decide) ?_
        exact r_lv [2, 3, 1, 0] rfl (ih v11 (x2 + 1))
      · refine r_if_ne hC 42 dX1_wagsBy_33 (by decide) (fun c12 => ?_) (fun c12 => ?_)
        · refine r_iload hC dX1_wagsBy_42 0 rfl ?_
          refine r_ineg hC dX1_wagsBy_44 ?_
          refine r_i2l hC dX1_wagsBy_45 ?_
          exact r_lv [1, 2, 4] rfl (hj10 (Int32.toInt64 (-v8)))
        · refine r_iload hC dX1_wagsBy_36 0 rfl ?_
          refine r_i2l hC dX1_wagsBy_38 ?_
          refine r_goto hC 46 dX1_wagsBy_39 (by decide) ?_
          exact r_lv [1, 2, 4] rfl (hj10 (Int32.toInt64 v8))
set_option maxHeartbeats 4000000 in
set_option maxRecDepth 100000 in
theorem c_X1_wagsBy {l : Launch} {w : Wd} (hW : HWd w shX rX 66) (σ : St) (a2 : Int32)  : ∀ res, f_X1_wagsBy σ a2 = some res → MtL l yX1_wagsBy cX1_wagsBy 6 .long 1 24 w [.ref (wA w 31), .int a2] σ (res, σ) := by
  refine mt_PL (by decide) rfl hW (fun X hl0 hC hret => ?_)
  show RF X w (Aw w (xs_ X).heap.size) 6 (fun r => QL X w (r, σ)) (f_X1_wagsBy σ a2) 0 [(0, .ref (wA w 31)), (1, .int a2)] [] σ
  unfold f_X1_wagsBy
  refine r_lconst (v := 0) hC dX1_wagsBy_0 (by decide) ?_
  refine r_lstore_n (lv' := [(2, .long 0), (0, .ref (wA w 31)), (1, .int a2)]) hC dX1_wagsBy_1 rfl (by decide) rfl ?_
  refine r_iconst (v := 0) hC dX1_wagsBy_2 (by decide) ?_
  refine r_istore (lv' := [(4, .int 0), (2, .long 0), (0, .ref (wA w 31)), (1, .int a2)]) hC dX1_wagsBy_3 (by decide) rfl ?_
  refine r_lv [2, 3, 1, 0] rfl ?_
  refine w_X1_wagsBy_l5 hC hret σ a2 _ ?_ FU 0 0
  · intro x3
    refine r_lload_n hC dX1_wagsBy_54 rfl 0 rfl ?_
    refine r_mabsL hC (by decide) (Nat.le_of_ble_eq_true rfl) lm_X1_112 ws_mabsL wi_math wc_mabsL dX1_wagsBy_55 ?_
    refine r_nmL (fun v13 => ?_)
    exact r_lretP hC hret dX1_wagsBy_58
