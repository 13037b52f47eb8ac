theorem lf_X4_24 : Cond.fieldLink RX4 24 (TX4 3).1 (TX4 3).2.1 (TX4 3).2.2.1 ∈ gw := gw_t1 167 rfl rfl
theorem lm_X4_28 : Cond.methodLink RX4 28 yX4_has ∈ gw := gw_t3 182 rfl rfl
theorem yk_X4_has : YV yX4_has cX4_has 2 (some .boolean) 1 := ⟨gw_t3 177 rfl rfl, gw_t3 175 rfl rfl, gw_t3 176 rfl rfl, gw_t1 7 rfl rfl, by decide +kernel⟩
theorem lf_X4_16 : Cond.fieldLink RX4 16 (TX4 2).1 (TX4 2).2.1 (TX4 2).2.2.1 ∈ gw := gw_t1 165 rfl rfl
theorem lf_X4_13 : Cond.fieldLink RX4 13 (TX4 1).1 (TX4 1).2.1 (TX4 1).2.2.1 ∈ gw := gw_t1 163 rfl rfl
theorem lm_X4_32 : Cond.methodLink RX4 32 yX4_isFull ∈ gw := gw_t3 156 rfl rfl
theorem yk_X4_isFull : YV yX4_isFull cX4_isFull 1 (some .boolean) 0 := ⟨gw_t3 151 rfl rfl, gw_t3 149 rfl rfl, gw_t3 150 rfl rfl, gw_t1 7 rfl rfl, by decide +kernel⟩
theorem lm_X4_39 : Cond.methodLink RX4 39 yX4_kindAt ∈ gw := gw_t3 157 rfl rfl
theorem lf_X4_20 : Cond.fieldLink RX4 20 (TX4 0).1 (TX4 0).2.1 (TX4 0).2.2.1 ∈ gw := gw_t1 162 rfl rfl
theorem lm_X4_43 : Cond.methodLink RX4 43 yX8_at ∈ gw := gw_t3 161 rfl rfl
theorem yk_X8_at : YV yX8_at cX8_at 2 (some .int) 1 := ⟨gw_t2 200 rfl rfl, gw_t2 198 rfl rfl, gw_t2 199 rfl rfl, gw_t1 4 rfl rfl, by decide +kernel⟩
theorem lm_X4_53 : Cond.methodLink RX4 53 yX8_isLetter ∈ gw := gw_t3 162 rfl rfl
theorem yk_X8_isLetter : YS yX8_isLetter cX8_isLetter 1 (some .boolean) 1 := ⟨gw_t2 206 rfl rfl, gw_t2 205 rfl rfl, gw_t1 4 rfl rfl, by decide +kernel⟩
theorem lm_X4_60 : Cond.methodLink RX4 60 yJ0_indexOf_0f7a4 ∈ gw := gw_t3 164 rfl rfl
theorem yk_J0_indexOf_0f7a4 : YV yJ0_indexOf_0f7a4 cJ0_indexOf_0f7a4 2 (some .int) 1 := ⟨gw_t3 31 rfl rfl, gw_t3 29 rfl rfl, gw_t3 30 rfl rfl, gw_t1 15 rfl rfl, by decide +kernel⟩
theorem yk_X4_kindAt : YV yX4_kindAt cX4_kindAt 3 (some .int) 1 := ⟨gw_t3 160 rfl rfl, gw_t3 159 rfl rfl, gw_s 11 rfl, gw_t1 7 rfl rfl, by decide +kernel⟩
theorem lm_X4_46 : Cond.methodLink RX4 46 yX8_digitOf ∈ gw := gw_t3 165 rfl rfl
theorem yk_X8_digitOf : YS yX8_digitOf cX8_digitOf 1 (some .int) 1 := ⟨gw_t3 22 rfl rfl, gw_t3 21 rfl rfl, gw_t1 4 rfl rfl, by decide +kernel⟩
theorem lm_X4_49 : Cond.methodLink RX4 49 yX4_append ∈ gw := gw_t3 166 rfl rfl
theorem yk_X4_append : YV yX4_append cX4_append 6 none 2 := ⟨gw_t3 169 rfl rfl, gw_t3 168 rfl rfl, gw_s 12 rfl, gw_t1 7 rfl rfl, by decide +kernel⟩
theorem lf_X4_36 : Cond.fieldLink RX4 36 (TX8 1).1 (TX8 1).2.1 (TX8 1).2.2.1 ∈ gw := gw_t1 104 rfl rfl
theorem lf_X9_19 : Cond.fieldLink RX9 19 (TX9 2).1 (TX9 2).2.1 (TX9 2).2.2.1 ∈ gw := gw_t1 120 rfl rfl
theorem lf_X9_23 : Cond.fieldLink RX9 23 (TX9 3).1 (TX9 3).2.1 (TX9 3).2.2.1 ∈ gw := gw_t1 121 rfl rfl
theorem lf_X9_26 : Cond.fieldLink RX9 26 (TX9 6).1 (TX9 6).2.1 (TX9 6).2.2.1 ∈ gw := gw_t1 124 rfl rfl
theorem lm_X9_29 : Cond.methodLink RX9 29 yX9_next ∈ gw := gw_t2 193 rfl rfl
theorem lf_X9_15 : Cond.fieldLink RX9 15 (TX9 0).1 (TX9 0).2.1 (TX9 0).2.2.1 ∈ gw := gw_t1 118 rfl rfl
theorem lf_X9_56 : Cond.fieldLink RX9 56 (TX8 1).1 (TX8 1).2.1 (TX8 1).2.2.1 ∈ gw := gw_t1 103 rfl rfl
theorem lm_X9_59 : Cond.methodLink RX9 59 yX8_at ∈ gw := gw_t2 197 rfl rfl
theorem lm_X9_63 : Cond.methodLink RX9 63 yX8_isBlank ∈ gw := gw_t2 201 rfl rfl
theorem yk_X8_isBlank : YS yX8_isBlank cX8_isBlank 1 (some .boolean) 1 := ⟨gw_t2 203 rfl rfl, gw_t2 202 rfl rfl, gw_t1 4 rfl rfl, by decide +kernel⟩
theorem lf_X9_44 : Cond.fieldLink RX9 44 (TX9 5).1 (TX9 5).2.1 (TX9 5).2.2.1 ∈ gw := gw_t1 123 rfl rfl
theorem lm_X9_66 : Cond.methodLink RX9 66 yX8_isLetter ∈ gw := gw_t2 204 rfl rfl
theorem lm_X9_73 : Cond.methodLink RX9 73 yX8_digitOf ∈ gw := gw_t3 20 rfl rfl
theorem lm_X9_81 : Cond.methodLink RX9 81 yJ0_indexOf_0f7a4 ∈ gw := gw_t3 28 rfl rfl
theorem lf_X9_41 : Cond.fieldLink RX9 41 (TX9 4).1 (TX9 4).2.1 (TX9 4).2.2.1 ∈ gw := gw_t1 122 rfl rfl
theorem lm_X9_76 : Cond.methodLink RX9 76 yX9_numberToken ∈ gw := gw_t3 23 rfl rfl
theorem yk_X9_numberToken : YV yX9_numberToken cX9_numberToken 3 (some .int) 0 := ⟨gw_t3 26 rfl rfl, gw_t3 25 rfl rfl, gw_s 2 rfl, gw_t1 5 rfl rfl, by decide +kernel⟩
theorem lm_X9_69 : Cond.methodLink RX9 69 yX9_wordToken ∈ gw := gw_t2 207 rfl rfl
theorem lm_X9_88 : Cond.methodLink RX9 88 yJ0_length_8abf5 ∈ gw := gw_t2 212 rfl rfl
theorem lm_X9_91 : Cond.methodLink RX9 91 yJ0_charAt_5068e ∈ gw := gw_t2 222 rfl rfl
theorem yk_X9_wordToken : YV yX9_wordToken cX9_wordToken 7 (some .int) 0 := ⟨gw_t2 210 rfl rfl, gw_t2 209 rfl rfl, gw_s 1 rfl, gw_t1 5 rfl rfl, by decide +kernel⟩
theorem yk_X9_next : YV yX9_next cX9_next 3 none 0 := ⟨gw_t2 196 rfl rfl, gw_t2 195 rfl rfl, gw_s 0 rfl, gw_t1 5 rfl rfl, by decide +kernel⟩
theorem lm_X9_34 : Cond.methodLink RX9 34 yX9_take ∈ gw := gw_t3 85 rfl rfl
theorem yk_X9_take : YV yX9_take cX9_take 2 (some .boolean) 1 := ⟨gw_t3 88 rfl rfl, gw_t3 87 rfl rfl, gw_s 3 rfl, gw_t1 5 rfl rfl, by decide +kernel⟩
theorem lm_X9_38 : Cond.methodLink RX9 38 yX9_readEither ∈ gw := gw_t3 89 rfl rfl
theorem lm_X9_114 : Cond.methodLink RX9 114 yX6_isOperand ∈ gw := gw_t3 117 rfl rfl
theorem yk_X9_readEither : YV yX9_readEither cX9_readEither 4 (some .boolean) 1 := ⟨gw_t3 92 rfl rfl, gw_t3 91 rfl rfl, gw_s 4 rfl, gw_t1 5 rfl rfl, by decide +kernel⟩
theorem lm_X9_111 : Cond.methodLink RX9 111 yX9_readOne ∈ gw := gw_t3 113 rfl rfl
theorem yk_X9_readOne : YV yX9_readOne cX9_readOne 3 (some .boolean) 1 := ⟨gw_t3 116 rfl rfl, gw_t3 115 rfl rfl, gw_s 10 rfl, gw_t1 5 rfl rfl, by decide +kernel⟩
theorem lm_X9_98 : Cond.methodLink RX9 98 yX9_put ∈ gw := gw_t3 101 rfl rfl
theorem lf_X9_9 : Cond.fieldLink RX9 9 (TX9 1).1 (TX9 1).2.1 (TX9 1).2.2.1 ∈ gw := gw_t1 119 rfl rfl
theorem yk_X9_put : YV yX9_put cX9_put 2 none 1 := ⟨gw_t3 104 rfl rfl, gw_t3 103 rfl rfl, gw_s 7 rfl, gw_t1 5 rfl rfl, by decide +kernel⟩
theorem lm_X9_108 : Cond.methodLink RX9 108 yX9_readTerm ∈ gw := gw_t3 109 rfl rfl
theorem yk_X9_readTerm : YV yX9_readTerm cX9_readTerm 4 (some .boolean) 1 := ⟨gw_t3 112 rfl rfl, gw_t3 111 rfl rfl, gw_s 9 rfl, gw_t1 5 rfl rfl, by decide +kernel⟩
theorem lm_X9_105 : Cond.methodLink RX9 105 yX9_readSum ∈ gw := gw_t3 105 rfl rfl
theorem yk_X9_readSum : YV yX9_readSum cX9_readSum 5 (some .boolean) 1 := ⟨gw_t3 108 rfl rfl, gw_t3 107 rfl rfl, gw_s 8 rfl, gw_t1 5 rfl rfl, by decide +kernel⟩
theorem lm_X9_102 : Cond.methodLink RX9 102 yX9_readNot ∈ gw := gw_t3 97 rfl rfl
theorem yk_X9_readNot : YV yX9_readNot cX9_readNot 4 (some .boolean) 1 := ⟨gw_t3 100 rfl rfl, gw_t3 99 rfl rfl, gw_s 6 rfl, gw_t1 5 rfl rfl, by decide +kernel⟩
theorem lm_X9_95 : Cond.methodLink RX9 95 yX9_readBoth ∈ gw := gw_t3 93 rfl rfl
theorem yk_X9_readBoth : YV yX9_readBoth cX9_readBoth 4 (some .boolean) 1 := ⟨gw_t3 96 rfl rfl, gw_t3 95 rfl rfl, gw_s 5 rfl, gw_t1 5 rfl rfl, by decide +kernel⟩
theorem dX4_has_0 : decode cX4_has 0 = .ok (.iload_n 1, 1) := by decide +kernel
theorem dX4_has_1 : decode cX4_has 1 = .ok (.ifCond .lt 15, 3) := by decide +kernel
theorem dX4_has_4 : decode cX4_has 4 = .ok (.iload_n 1, 1) := by decide +kernel
theorem dX4_has_5 : decode cX4_has 5 = .ok (.aload_n 0, 1) := by decide +kernel
theorem dX4_has_6 : decode cX4_has 6 = .ok (.getfield 24, 3) := by decide +kernel
theorem dX4_has_9 : decode cX4_has 9 = .ok (.if_icmp .ge 7, 3) := by decide +kernel
theorem dX4_has_12 : decode cX4_has 12 = .ok (.iconst 1, 1) := by decide +kernel
theorem dX4_has_13 : decode cX4_has 13 = .ok (.goto 4, 3) := by decide +kernel
theorem dX4_has_16 : decode cX4_has 16 = .ok (.iconst 0, 1) := by decide +kernel
theorem dX4_has_17 : decode cX4_has 17 = .ok (.ireturn, 1) := by decide +kernel
theorem dX4_isFull_0 : decode cX4_isFull 0 = .ok (.aload_n 0, 1) := by decide +kernel
theorem dX4_isFull_1 : decode cX4_isFull 1 = .ok (.getfield 24, 3) := by decide +kernel
theorem dX4_isFull_4 : decode cX4_isFull 4 = .ok (.bipush 8, 2) := by decide +kernel
theorem dX4_isFull_6 : decode cX4_isFull 6 = .ok (.if_icmp .lt 7, 3) := by decide +kernel
theorem dX4_isFull_9 : decode cX4_isFull 9 = .ok (.iconst 1, 1) := by decide +kernel
theorem dX4_isFull_10 : decode cX4_isFull 10 = .ok (.goto 4, 3) := by decide +kernel
theorem dX4_isFull_13 : decode cX4_isFull 13 = .ok (.iconst 0, 1) := by decide +kernel
theorem dX4_isFull_14 : decode cX4_isFull 14 = .ok (.ireturn, 1) := by decide +kernel
theorem dX4_kindOf_0 : decode cX4_kindOf 0 = .ok (.aload_n 0, 1) := by decide +kernel
theorem dX4_kindOf_1 : decode cX4_kindOf 1 = .ok (.iload_n 1, 1) := by decide +kernel
theorem dX4_kindOf_2 : decode cX4_kindOf 2 = .ok (.invokevirtual 28, 3) := by decide +kernel
theorem dX4_kindOf_5 : decode cX4_kindOf 5 = .ok (.ifCond .eq 28, 3) := by decide +kernel
theorem dX4_kindOf_8 : decode cX4_kindOf 8 = .ok (.iload_n 2, 1) := by decide +kernel
theorem dX4_kindOf_9 : decode cX4_kindOf 9 = .ok (.ifCond .lt 24, 3) := by decide +kernel
theorem dX4_kindOf_12 : decode cX4_kindOf 12 = .ok (.iload_n 2, 1) := by decide +kernel
theorem dX4_kindOf_13 : decode cX4_kindOf 13 = .ok (.aload_n 0, 1) := by decide +kernel
theorem dX4_kindOf_14 : decode cX4_kindOf 14 = .ok (.getfield 16, 3) := by decide +kernel
theorem dX4_kindOf_17 : decode cX4_kindOf 17 = .ok (.iload_n 1, 1) := by decide +kernel
theorem dX4_kindOf_18 : decode cX4_kindOf 18 = .ok (.iaload, 1) := by decide +kernel
theorem dX4_kindOf_19 : decode cX4_kindOf 19 = .ok (.if_icmp .ge 14, 3) := by decide +kernel
theorem dX4_kindOf_22 : decode cX4_kindOf 22 = .ok (.aload_n 0, 1) := by decide +kernel
theorem dX4_kindOf_23 : decode cX4_kindOf 23 = .ok (.getfield 13, 3) := by decide +kernel
theorem dX4_kindOf_26 : decode cX4_kindOf 26 = .ok (.iload_n 1, 1) := by decide +kernel
theorem dX4_kindOf_27 : decode cX4_kindOf 27 = .ok (.aaload, 1) := by decide +kernel
theorem dX4_kindOf_28 : decode cX4_kindOf 28 = .ok (.iload_n 2, 1) := by decide +kernel
theorem dX4_kindOf_29 : decode cX4_kindOf 29 = .ok (.iaload, 1) := by decide +kernel
theorem dX4_kindOf_30 : decode cX4_kindOf 30 = .ok (.goto 4, 3) := by decide +kernel
theorem dX4_kindOf_33 : decode cX4_kindOf 33 = .ok (.iconst (-1), 1) := by decide +kernel
theorem dX4_kindOf_34 : decode cX4_kindOf 34 = .ok (.ireturn, 1) := by decide +kernel
theorem dX4_kindAt_0 : decode cX4_kindAt 0 = .ok (.aload_n 0, 1) := by decide +kernel
theorem dX4_kindAt_1 : decode cX4_kindAt 1 = .ok (.getfield 20, 3) := by decide +kernel
theorem dX4_kindAt_4 : decode cX4_kindAt 4 = .ok (.iload_n 1, 1) := by decide +kernel
theorem dX4_kindAt_5 : decode cX4_kindAt 5 = .ok (.invokevirtual 43, 3) := by decide +kernel
theorem dX4_kindAt_8 : decode cX4_kindAt 8 = .ok (.istore_n 2, 1) := by decide +kernel
theorem dX4_kindAt_9 : decode cX4_kindAt 9 = .ok (.iload_n 2, 1) := by decide +kernel
theorem dX4_kindAt_10 : decode cX4_kindAt 10 = .ok (.invokestatic 53, 3) := by decide +kernel
theorem dX4_kindAt_13 : decode cX4_kindAt 13 = .ok (.ifCond .eq 13, 3) := by decide +kernel
theorem dX4_kindAt_16 : decode cX4_kindAt 16 = .ok (.ldc 58, 2) := by decide +kernel
theorem dX4_kindAt_18 : decode cX4_kindAt 18 = .ok (.iload_n 2, 1) := by decide +kernel
theorem dX4_kindAt_19 : decode cX4_kindAt 19 = .ok (.i2c, 1) := by decide +kernel
theorem dX4_kindAt_20 : decode cX4_kindAt 20 = .ok (.invokevirtual 60, 3) := by decide +kernel
theorem dX4_kindAt_23 : decode cX4_kindAt 23 = .ok (.goto 4, 3) := by decide +kernel
theorem dX4_kindAt_26 : decode cX4_kindAt 26 = .ok (.iconst (-1), 1) := by decide +kernel
theorem dX4_kindAt_27 : decode cX4_kindAt 27 = .ok (.ireturn, 1) := by decide +kernel
theorem dX4_append_0 : decode cX4_append 0 = .ok (.aload_n 0, 1) := by decide +kernel
theorem dX4_append_1 : decode cX4_append 1 = .ok (.getfield 13, 3) := by decide +kernel
theorem dX4_append_4 : decode cX4_append 4 = .ok (.aload_n 0, 1) := by decide +kernel
theorem dX4_append_5 : decode cX4_append 5 = .ok (.getfield 24, 3) := by decide +kernel
theorem dX4_append_8 : decode cX4_append 8 = .ok (.aaload, 1) := by decide +kernel
theorem dX4_append_9 : decode cX4_append 9 = .ok (.astore_n 3, 1) := by decide +kernel
theorem dX4_append_10 : decode cX4_append 10 = .ok (.aload_n 0, 1) := by decide +kernel
theorem dX4_append_11 : decode cX4_append 11 = .ok (.getfield 16, 3) := by decide +kernel
theorem dX4_append_14 : decode cX4_append 14 = .ok (.aload_n 0, 1) := by decide +kernel
theorem dX4_append_15 : decode cX4_append 15 = .ok (.getfield 24, 3) := by decide +kernel
theorem dX4_append_18 : decode cX4_append 18 = .ok (.iaload, 1) := by decide +kernel
theorem dX4_append_19 : decode cX4_append 19 = .ok (.istore 4, 2) := by decide +kernel
theorem dX4_append_21 : decode cX4_append 21 = .ok (.iload 4, 2) := by decide +kernel
theorem dX4_append_23 : decode cX4_append 23 = .ok (.istore 5, 2) := by decide +kernel
theorem dX4_append_25 : decode cX4_append 25 = .ok (.iload 5, 2) := by decide +kernel
theorem dX4_append_27 : decode cX4_append 27 = .ok (.iload 4, 2) := by decide +kernel
theorem dX4_append_29 : decode cX4_append 29 = .ok (.iload_n 2, 1) := by decide +kernel
theorem dX4_append_30 : decode cX4_append 30 = .ok (.iadd, 1) := by decide +kernel
theorem dX4_append_31 : decode cX4_append 31 = .ok (.if_icmp .ge 21, 3) := by decide +kernel
theorem dX4_append_34 : decode cX4_append 34 = .ok (.iload 5, 2) := by decide +kernel
theorem dX4_append_36 : decode cX4_append 36 = .ok (.aload_n 3, 1) := by decide +kernel
theorem dX4_append_37 : decode cX4_append 37 = .ok (.arraylength, 1) := by decide +kernel
theorem dX4_append_38 : decode cX4_append 38 = .ok (.if_icmp .ge 14, 3) := by decide +kernel
theorem dX4_append_41 : decode cX4_append 41 = .ok (.aload_n 3, 1) := by decide +kernel
theorem dX4_append_42 : decode cX4_append 42 = .ok (.iload 5, 2) := by decide +kernel
theorem dX4_append_44 : decode cX4_append 44 = .ok (.iload_n 1, 1) := by decide +kernel
theorem dX4_append_45 : decode cX4_append 45 = .ok (.iastore, 1) := by decide +kernel
theorem dX4_append_46 : decode cX4_append 46 = .ok (.iinc 5 1, 3) := by decide +kernel
theorem dX4_append_49 : decode cX4_append 49 = .ok (.goto (-24), 3) := by decide +kernel
theorem dX4_append_52 : decode cX4_append 52 = .ok (.aload_n 0, 1) := by decide +kernel
theorem dX4_append_53 : decode cX4_append 53 = .ok (.getfield 16, 3) := by decide +kernel
theorem dX4_append_56 : decode cX4_append 56 = .ok (.aload_n 0, 1) := by decide +kernel
theorem dX4_append_57 : decode cX4_append 57 = .ok (.getfield 24, 3) := by decide +kernel
theorem dX4_append_60 : decode cX4_append 60 = .ok (.iload 4, 2) := by decide +kernel
theorem dX4_append_62 : decode cX4_append 62 = .ok (.iload_n 2, 1) := by decide +kernel
theorem dX4_append_63 : decode cX4_append 63 = .ok (.iadd, 1) := by decide +kernel
theorem dX4_append_64 : decode cX4_append 64 = .ok (.iastore, 1) := by decide +kernel
theorem dX4_append_65 : decode cX4_append 65 = .ok (.return_, 1) := by decide +kernel
theorem dX4_read_0 : decode cX4_read 0 = .ok (.aload_n 0, 1) := by decide +kernel
theorem dX4_read_1 : decode cX4_read 1 = .ok (.invokevirtual 32, 3) := by decide +kernel
theorem dX4_read_4 : decode cX4_read 4 = .ok (.ifCond .eq 5, 3) := by decide +kernel
theorem dX4_read_7 : decode cX4_read 7 = .ok (.iconst 0, 1) := by decide +kernel
theorem dX4_read_8 : decode cX4_read 8 = .ok (.ireturn, 1) := by decide +kernel
theorem dX4_read_9 : decode cX4_read 9 = .ok (.aload_n 0, 1) := by decide +kernel
theorem dX4_read_10 : decode cX4_read 10 = .ok (.getfield 16, 3) := by decide +kernel
theorem dX4_read_13 : decode cX4_read 13 = .ok (.aload_n 0, 1) := by decide +kernel
theorem dX4_read_14 : decode cX4_read 14 = .ok (.getfield 24, 3) := by decide +kernel
theorem dX4_read_17 : decode cX4_read 17 = .ok (.iconst 0, 1) := by decide +kernel
theorem dX4_read_18 : decode cX4_read 18 = .ok (.iastore, 1) := by decide +kernel
theorem dX4_read_19 : decode cX4_read 19 = .ok (.iconst 0, 1) := by decide +kernel
theorem dX4_read_20 : decode cX4_read 20 = .ok (.istore_n 1, 1) := by decide +kernel
theorem dX4_read_21 : decode cX4_read 21 = .ok (.iconst 0, 1) := by decide +kernel
theorem dX4_read_22 : decode cX4_read 22 = .ok (.istore_n 2, 1) := by decide +kernel
theorem dX4_read_23 : decode cX4_read 23 = .ok (.iload_n 2, 1) := by decide +kernel
theorem dX4_read_24 : decode cX4_read 24 = .ok (.bipush 12, 2) := by decide +kernel
theorem dX4_read_26 : decode cX4_read 26 = .ok (.if_icmp .ge 152, 3) := by decide +kernel
theorem dX4_read_29 : decode cX4_read 29 = .ok (.iload_n 2, 1) := by decide +kernel
theorem dX4_read_30 : decode cX4_read 30 = .ok (.ifCond .eq 14, 3) := by decide +kernel
theorem dX4_read_33 : decode cX4_read 33 = .ok (.iload_n 1, 1) := by decide +kernel
theorem dX4_read_34 : decode cX4_read 34 = .ok (.aload_n 0, 1) := by decide +kernel
theorem dX4_read_35 : decode cX4_read 35 = .ok (.getfield 20, 3) := by decide +kernel
theorem dX4_read_38 : decode cX4_read 38 = .ok (.getfield 36, 3) := by decide +kernel
theorem dX4_read_41 : decode cX4_read 41 = .ok (.if_icmp .ge 137, 3) := by decide +kernel
theorem dX4_read_44 : decode cX4_read 44 = .ok (.aload_n 0, 1) := by decide +kernel
theorem dX4_read_45 : decode cX4_read 45 = .ok (.iload_n 1, 1) := by decide +kernel
theorem dX4_read_46 : decode cX4_read 46 = .ok (.invokevirtual 39, 3) := by decide +kernel
theorem dX4_read_49 : decode cX4_read 49 = .ok (.iconst (-1), 1) := by decide +kernel
theorem dX4_read_50 : decode cX4_read 50 = .ok (.if_icmp .ne 5, 3) := by decide +kernel
theorem dX4_read_53 : decode cX4_read 53 = .ok (.iload_n 1, 1) := by decide +kernel
theorem dX4_read_54 : decode cX4_read 54 = .ok (.ireturn, 1) := by decide +kernel
theorem dX4_read_55 : decode cX4_read 55 = .ok (.iload_n 1, 1) := by decide +kernel
theorem dX4_read_56 : decode cX4_read 56 = .ok (.iconst 1, 1) := by decide +kernel
theorem dX4_read_57 : decode cX4_read 57 = .ok (.iadd, 1) := by decide +kernel
theorem dX4_read_58 : decode cX4_read 58 = .ok (.istore_n 3, 1) := by decide +kernel
theorem dX4_read_59 : decode cX4_read 59 = .ok (.aload_n 0, 1) := by decide +kernel
theorem dX4_read_60 : decode cX4_read 60 = .ok (.getfield 20, 3) := by decide +kernel
theorem dX4_read_63 : decode cX4_read 63 = .ok (.iload_n 3, 1) := by decide +kernel
theorem dX4_read_64 : decode cX4_read 64 = .ok (.invokevirtual 43, 3) := by decide +kernel
theorem dX4_read_67 : decode cX4_read 67 = .ok (.invokestatic 46, 3) := by decide +kernel
theorem dX4_read_70 : decode cX4_read 70 = .ok (.istore 4, 2) := by decide +kernel
theorem dX4_read_72 : decode cX4_read 72 = .ok (.aload_n 0, 1) := by decide +kernel
theorem dX4_read_73 : decode cX4_read 73 = .ok (.getfield 20, 3) := by decide +kernel
theorem dX4_read_76 : decode cX4_read 76 = .ok (.iload_n 3, 1) := by decide +kernel
theorem dX4_read_77 : decode cX4_read 77 = .ok (.iconst 1, 1) := by decide +kernel
theorem dX4_read_78 : decode cX4_read 78 = .ok (.iadd, 1) := by decide +kernel
theorem dX4_read_79 : decode cX4_read 79 = .ok (.invokevirtual 43, 3) := by decide +kernel
theorem dX4_read_82 : decode cX4_read 82 = .ok (.invokestatic 46, 3) := by decide +kernel
theorem dX4_read_85 : decode cX4_read 85 = .ok (.istore 5, 2) := by decide +kernel
theorem dX4_read_87 : decode cX4_read 87 = .ok (.iload 4, 2) := by decide +kernel
theorem dX4_read_89 : decode cX4_read 89 = .ok (.iconst (-1), 1) := by decide +kernel
theorem dX4_read_90 : decode cX4_read 90 = .ok (.if_icmp .ne 5, 3) := by decide +kernel
theorem dX4_read_93 : decode cX4_read 93 = .ok (.iload_n 3, 1) := by decide +kernel
theorem dX4_read_94 : decode cX4_read 94 = .ok (.ireturn, 1) := by decide +kernel
theorem dX4_read_95 : decode cX4_read 95 = .ok (.iload 5, 2) := by decide +kernel
theorem dX4_read_97 : decode cX4_read 97 = .ok (.iconst (-1), 1) := by decide +kernel
theorem dX4_read_98 : decode cX4_read 98 = .ok (.if_icmp .ne 8, 3) := by decide +kernel
theorem dX4_read_101 : decode cX4_read 101 = .ok (.iload 4, 2) := by decide +kernel
theorem dX4_read_103 : decode cX4_read 103 = .ok (.goto 11, 3) := by decide +kernel
theorem dX4_read_106 : decode cX4_read 106 = .ok (.bipush 10, 2) := by decide +kernel
theorem dX4_read_108 : decode cX4_read 108 = .ok (.iload 4, 2) := by decide +kernel
theorem dX4_read_110 : decode cX4_read 110 = .ok (.imul, 1) := by decide +kernel
theorem dX4_read_111 : decode cX4_read 111 = .ok (.iload 5, 2) := by decide +kernel
theorem dX4_read_113 : decode cX4_read 113 = .ok (.iadd, 1) := by decide +kernel
theorem dX4_read_114 : decode cX4_read 114 = .ok (.istore 6, 2) := by decide +kernel
theorem dX4_read_116 : decode cX4_read 116 = .ok (.iload 6, 2) := by decide +kernel
theorem dX4_read_118 : decode cX4_read 118 = .ok (.ifCond .ne 7, 3) := by decide +kernel
theorem dX4_read_121 : decode cX4_read 121 = .ok (.iload_n 3, 1) := by decide +kernel
theorem dX4_read_122 : decode cX4_read 122 = .ok (.iconst 1, 1) := by decide +kernel
theorem dX4_read_123 : decode cX4_read 123 = .ok (.iadd, 1) := by decide +kernel
theorem dX4_read_124 : decode cX4_read 124 = .ok (.ireturn, 1) := by decide +kernel
theorem dX4_read_125 : decode cX4_read 125 = .ok (.iload 6, 2) := by decide +kernel
theorem dX4_read_127 : decode cX4_read 127 = .ok (.sipush 200, 3) := by decide +kernel
theorem dX4_read_130 : decode cX4_read 130 = .ok (.aload_n 0, 1) := by decide +kernel
theorem dX4_read_131 : decode cX4_read 131 = .ok (.getfield 16, 3) := by decide +kernel
theorem dX4_read_134 : decode cX4_read 134 = .ok (.aload_n 0, 1) := by decide +kernel
theorem dX4_read_135 : decode cX4_read 135 = .ok (.getfield 24, 3) := by decide +kernel
theorem dX4_read_138 : decode cX4_read 138 = .ok (.iaload, 1) := by decide +kernel
theorem dX4_read_139 : decode cX4_read 139 = .ok (.isub, 1) := by decide +kernel
theorem dX4_read_140 : decode cX4_read 140 = .ok (.if_icmp .le 5, 3) := by decide +kernel
theorem dX4_read_143 : decode cX4_read 143 = .ok (.iload_n 3, 1) := by decide +kernel
theorem dX4_read_144 : decode cX4_read 144 = .ok (.ireturn, 1) := by decide +kernel
theorem dX4_read_145 : decode cX4_read 145 = .ok (.aload_n 0, 1) := by decide +kernel
theorem dX4_read_146 : decode cX4_read 146 = .ok (.aload_n 0, 1) := by decide +kernel
theorem dX4_read_147 : decode cX4_read 147 = .ok (.iload_n 1, 1) := by decide +kernel
theorem dX4_read_148 : decode cX4_read 148 = .ok (.invokevirtual 39, 3) := by decide +kernel
theorem dX4_read_151 : decode cX4_read 151 = .ok (.iload 6, 2) := by decide +kernel
theorem dX4_read_153 : decode cX4_read 153 = .ok (.invokevirtual 49, 3) := by decide +kernel
theorem dX4_read_156 : decode cX4_read 156 = .ok (.iload 5, 2) := by decide +kernel
theorem dX4_read_158 : decode cX4_read 158 = .ok (.iconst (-1), 1) := by decide +kernel
theorem dX4_read_159 : decode cX4_read 159 = .ok (.if_icmp .ne 9, 3) := by decide +kernel
theorem dX4_read_162 : decode cX4_read 162 = .ok (.iload_n 3, 1) := by decide +kernel
theorem dX4_read_163 : decode cX4_read 163 = .ok (.iconst 1, 1) := by decide +kernel
theorem dX4_read_164 : decode cX4_read 164 = .ok (.iadd, 1) := by decide +kernel
theorem dX4_read_165 : decode cX4_read 165 = .ok (.goto 6, 3) := by decide +kernel
theorem dX4_read_168 : decode cX4_read 168 = .ok (.iload_n 3, 1) := by decide +kernel
theorem dX4_read_169 : decode cX4_read 169 = .ok (.iconst 2, 1) := by decide +kernel
theorem dX4_read_170 : decode cX4_read 170 = .ok (.iadd, 1) := by decide +kernel
theorem dX4_read_171 : decode cX4_read 171 = .ok (.istore_n 1, 1) := by decide +kernel
theorem dX4_read_172 : decode cX4_read 172 = .ok (.iinc 2 1, 3) := by decide +kernel
theorem dX4_read_175 : decode cX4_read 175 = .ok (.goto (-152), 3) := by decide +kernel
theorem dX4_read_178 : decode cX4_read 178 = .ok (.iload_n 1, 1) := by decide +kernel
theorem dX4_read_179 : decode cX4_read 179 = .ok (.aload_n 0, 1) := by decide +kernel
theorem dX4_read_180 : decode cX4_read 180 = .ok (.getfield 20, 3) := by decide +kernel
theorem dX4_read_183 : decode cX4_read 183 = .ok (.getfield 36, 3) := by decide +kernel
theorem dX4_read_186 : decode cX4_read 186 = .ok (.if_icmp .ge 5, 3) := by decide +kernel
theorem dX4_read_189 : decode cX4_read 189 = .ok (.iload_n 1, 1) := by decide +kernel
theorem dX4_read_190 : decode cX4_read 190 = .ok (.ireturn, 1) := by decide +kernel
theorem dX4_read_191 : decode cX4_read 191 = .ok (.aload_n 0, 1) := by decide +kernel
theorem dX4_read_192 : decode cX4_read 192 = .ok (.dup, 1) := by decide +kernel
theorem dX4_read_193 : decode cX4_read 193 = .ok (.getfield 24, 3) := by decide +kernel
theorem dX4_read_196 : decode cX4_read 196 = .ok (.iconst 1, 1) := by decide +kernel
theorem dX4_read_197 : decode cX4_read 197 = .ok (.iadd, 1) := by decide +kernel
theorem dX4_read_198 : decode cX4_read 198 = .ok (.putfield 24, 3) := by decide +kernel
theorem dX4_read_201 : decode cX4_read 201 = .ok (.iconst (-1), 1) := by decide +kernel
theorem dX4_read_202 : decode cX4_read 202 = .ok (.ireturn, 1) := by decide +kernel
theorem dX9_numberToken_0 : decode cX9_numberToken 0 = .ok (.aload_n 0, 1) := by decide +kernel
theorem dX9_numberToken_1 : decode cX9_numberToken 1 = .ok (.getfield 44, 3) := by decide +kernel
theorem dX9_numberToken_4 : decode cX9_numberToken 4 = .ok (.istore_n 1, 1) := by decide +kernel
theorem dX9_numberToken_5 : decode cX9_numberToken 5 = .ok (.iconst 0, 1) := by decide +kernel
theorem dX9_numberToken_6 : decode cX9_numberToken 6 = .ok (.istore_n 2, 1) := by decide +kernel
theorem dX9_numberToken_7 : decode cX9_numberToken 7 = .ok (.iload_n 1, 1) := by decide +kernel
theorem dX9_numberToken_8 : decode cX9_numberToken 8 = .ok (.aload_n 0, 1) := by decide +kernel
theorem dX9_numberToken_9 : decode cX9_numberToken 9 = .ok (.getfield 15, 3) := by decide +kernel
theorem dX9_numberToken_12 : decode cX9_numberToken 12 = .ok (.getfield 56, 3) := by decide +kernel
theorem dX9_numberToken_15 : decode cX9_numberToken 15 = .ok (.if_icmp .ge 51, 3) := by decide +kernel
theorem dX9_numberToken_18 : decode cX9_numberToken 18 = .ok (.aload_n 0, 1) := by decide +kernel
theorem dX9_numberToken_19 : decode cX9_numberToken 19 = .ok (.getfield 15, 3) := by decide +kernel
theorem dX9_numberToken_22 : decode cX9_numberToken 22 = .ok (.iload_n 1, 1) := by decide +kernel
theorem dX9_numberToken_23 : decode cX9_numberToken 23 = .ok (.invokevirtual 59, 3) := by decide +kernel
theorem dX9_numberToken_26 : decode cX9_numberToken 26 = .ok (.invokestatic 73, 3) := by decide +kernel
theorem dX9_numberToken_29 : decode cX9_numberToken 29 = .ok (.iconst (-1), 1) := by decide +kernel
theorem dX9_numberToken_30 : decode cX9_numberToken 30 = .ok (.if_icmp .eq 36, 3) := by decide +kernel
theorem dX9_numberToken_33 : decode cX9_numberToken 33 = .ok (.iload_n 1, 1) := by decide +kernel
theorem dX9_numberToken_34 : decode cX9_numberToken 34 = .ok (.aload_n 0, 1) := by decide +kernel
theorem dX9_numberToken_35 : decode cX9_numberToken 35 = .ok (.getfield 44, 3) := by decide +kernel
theorem dX9_numberToken_38 : decode cX9_numberToken 38 = .ok (.isub, 1) := by decide +kernel
theorem dX9_numberToken_39 : decode cX9_numberToken 39 = .ok (.iconst 4, 1) := by decide +kernel
theorem dX9_numberToken_40 : decode cX9_numberToken 40 = .ok (.if_icmp .ge 20, 3) := by decide +kernel
theorem dX9_numberToken_43 : decode cX9_numberToken 43 = .ok (.bipush 10, 2) := by decide +kernel
theorem dX9_numberToken_45 : decode cX9_numberToken 45 = .ok (.iload_n 2, 1) := by decide +kernel
theorem dX9_numberToken_46 : decode cX9_numberToken 46 = .ok (.imul, 1) := by decide +kernel
theorem dX9_numberToken_47 : decode cX9_numberToken 47 = .ok (.aload_n 0, 1) := by decide +kernel
theorem dX9_numberToken_48 : decode cX9_numberToken 48 = .ok (.getfield 15, 3) := by decide +kernel
theorem dX9_numberToken_51 : decode cX9_numberToken 51 = .ok (.iload_n 1, 1) := by decide +kernel
theorem dX9_numberToken_52 : decode cX9_numberToken 52 = .ok (.invokevirtual 59, 3) := by decide +kernel
theorem dX9_numberToken_55 : decode cX9_numberToken 55 = .ok (.invokestatic 73, 3) := by decide +kernel
theorem dX9_numberToken_58 : decode cX9_numberToken 58 = .ok (.iadd, 1) := by decide +kernel
theorem dX9_numberToken_59 : decode cX9_numberToken 59 = .ok (.istore_n 2, 1) := by decide +kernel
theorem dX9_numberToken_60 : decode cX9_numberToken 60 = .ok (.iinc 1 1, 3) := by decide +kernel
theorem dX9_numberToken_63 : decode cX9_numberToken 63 = .ok (.goto (-56), 3) := by decide +kernel
theorem dX9_numberToken_66 : decode cX9_numberToken 66 = .ok (.aload_n 0, 1) := by decide +kernel
theorem dX9_numberToken_67 : decode cX9_numberToken 67 = .ok (.iload_n 1, 1) := by decide +kernel
theorem dX9_numberToken_68 : decode cX9_numberToken 68 = .ok (.putfield 26, 3) := by decide +kernel
theorem dX9_numberToken_71 : decode cX9_numberToken 71 = .ok (.iload_n 1, 1) := by decide +kernel
theorem dX9_numberToken_72 : decode cX9_numberToken 72 = .ok (.aload_n 0, 1) := by decide +kernel
theorem dX9_numberToken_73 : decode cX9_numberToken 73 = .ok (.getfield 44, 3) := by decide +kernel
theorem dX9_numberToken_76 : decode cX9_numberToken 76 = .ok (.isub, 1) := by decide +kernel
theorem dX9_numberToken_77 : decode cX9_numberToken 77 = .ok (.iconst 4, 1) := by decide +kernel
theorem dX9_numberToken_78 : decode cX9_numberToken 78 = .ok (.if_icmp .le 8, 3) := by decide +kernel
theorem dX9_numberToken_81 : decode cX9_numberToken 81 = .ok (.bipush (-2), 2) := by decide +kernel
theorem dX9_numberToken_83 : decode cX9_numberToken 83 = .ok (.goto 4, 3) := by decide +kernel
theorem dX9_numberToken_86 : decode cX9_numberToken 86 = .ok (.iload_n 2, 1) := by decide +kernel
theorem dX9_numberToken_87 : decode cX9_numberToken 87 = .ok (.ireturn, 1) := by decide +kernel
theorem dX9_wordToken_0 : decode cX9_wordToken 0 = .ok (.aload_n 0, 1) := by decide +kernel
theorem dX9_wordToken_1 : decode cX9_wordToken 1 = .ok (.getfield 44, 3) := by decide +kernel
theorem dX9_wordToken_4 : decode cX9_wordToken 4 = .ok (.istore_n 1, 1) := by decide +kernel
theorem dX9_wordToken_5 : decode cX9_wordToken 5 = .ok (.iload_n 1, 1) := by decide +kernel
theorem dX9_wordToken_6 : decode cX9_wordToken 6 = .ok (.aload_n 0, 1) := by decide +kernel
theorem dX9_wordToken_7 : decode cX9_wordToken 7 = .ok (.getfield 15, 3) := by decide +kernel
theorem dX9_wordToken_10 : decode cX9_wordToken 10 = .ok (.getfield 56, 3) := by decide +kernel
theorem dX9_wordToken_13 : decode cX9_wordToken 13 = .ok (.if_icmp .ge 23, 3) := by decide +kernel
theorem dX9_wordToken_16 : decode cX9_wordToken 16 = .ok (.aload_n 0, 1) := by decide +kernel
theorem dX9_wordToken_17 : decode cX9_wordToken 17 = .ok (.getfield 15, 3) := by decide +kernel
theorem dX9_wordToken_20 : decode cX9_wordToken 20 = .ok (.iload_n 1, 1) := by decide +kernel
theorem dX9_wordToken_21 : decode cX9_wordToken 21 = .ok (.invokevirtual 59, 3) := by decide +kernel
theorem dX9_wordToken_24 : decode cX9_wordToken 24 = .ok (.invokestatic 66, 3) := by decide +kernel
theorem dX9_wordToken_27 : decode cX9_wordToken 27 = .ok (.ifCond .eq 9, 3) := by decide +kernel
theorem dX9_wordToken_30 : decode cX9_wordToken 30 = .ok (.iinc 1 1, 3) := by decide +kernel
theorem dX9_wordToken_33 : decode cX9_wordToken 33 = .ok (.goto (-28), 3) := by decide +kernel
theorem dX9_wordToken_36 : decode cX9_wordToken 36 = .ok (.aload_n 0, 1) := by decide +kernel
theorem dX9_wordToken_37 : decode cX9_wordToken 37 = .ok (.iload_n 1, 1) := by decide +kernel
theorem dX9_wordToken_38 : decode cX9_wordToken 38 = .ok (.putfield 26, 3) := by decide +kernel
theorem dX9_wordToken_41 : decode cX9_wordToken 41 = .ok (.iconst 0, 1) := by decide +kernel
theorem dX9_wordToken_42 : decode cX9_wordToken 42 = .ok (.istore_n 2, 1) := by decide +kernel
theorem dX9_wordToken_43 : decode cX9_wordToken 43 = .ok (.aload_n 0, 1) := by decide +kernel
theorem dX9_wordToken_44 : decode cX9_wordToken 44 = .ok (.getfield 44, 3) := by decide +kernel
theorem dX9_wordToken_47 : decode cX9_wordToken 47 = .ok (.istore_n 3, 1) := by decide +kernel
theorem dX9_wordToken_48 : decode cX9_wordToken 48 = .ok (.iconst 1, 1) := by decide +kernel
theorem dX9_wordToken_49 : decode cX9_wordToken 49 = .ok (.istore 4, 2) := by decide +kernel
theorem dX9_wordToken_51 : decode cX9_wordToken 51 = .ok (.iconst 0, 1) := by decide +kernel
theorem dX9_wordToken_52 : decode cX9_wordToken 52 = .ok (.istore 5, 2) := by decide +kernel
theorem dX9_wordToken_54 : decode cX9_wordToken 54 = .ok (.iload 5, 2) := by decide +kernel
theorem dX9_wordToken_56 : decode cX9_wordToken 56 = .ok (.ldc 86, 2) := by decide +kernel
theorem dX9_wordToken_58 : decode cX9_wordToken 58 = .ok (.invokevirtual 88, 3) := by decide +kernel
theorem dX9_wordToken_61 : decode cX9_wordToken 61 = .ok (.if_icmp .ge 88, 3) := by decide +kernel
theorem dX9_wordToken_64 : decode cX9_wordToken 64 = .ok (.ldc 86, 2) := by decide +kernel
theorem dX9_wordToken_66 : decode cX9_wordToken 66 = .ok (.iload 5, 2) := by decide +kernel
theorem dX9_wordToken_68 : decode cX9_wordToken 68 = .ok (.invokevirtual 91, 3) := by decide +kernel
theorem dX9_wordToken_71 : decode cX9_wordToken 71 = .ok (.istore 6, 2) := by decide +kernel
theorem dX9_wordToken_73 : decode cX9_wordToken 73 = .ok (.iload 6, 2) := by decide +kernel
theorem dX9_wordToken_75 : decode cX9_wordToken 75 = .ok (.bipush 32, 2) := by decide +kernel
theorem dX9_wordToken_77 : decode cX9_wordToken 77 = .ok (.if_icmp .eq 39, 3) := by decide +kernel
theorem dX9_wordToken_80 : decode cX9_wordToken 80 = .ok (.iload 4, 2) := by decide +kernel
theorem dX9_wordToken_82 : decode cX9_wordToken 82 = .ok (.ifCond .eq 25, 3) := by decide +kernel
theorem dX9_wordToken_85 : decode cX9_wordToken 85 = .ok (.iload_n 3, 1) := by decide +kernel
theorem dX9_wordToken_86 : decode cX9_wordToken 86 = .ok (.iload_n 1, 1) := by decide +kernel
theorem dX9_wordToken_87 : decode cX9_wordToken 87 = .ok (.if_icmp .ge 20, 3) := by decide +kernel
theorem dX9_wordToken_90 : decode cX9_wordToken 90 = .ok (.aload_n 0, 1) := by decide +kernel
theorem dX9_wordToken_91 : decode cX9_wordToken 91 = .ok (.getfield 15, 3) := by decide +kernel
theorem dX9_wordToken_94 : decode cX9_wordToken 94 = .ok (.iload_n 3, 1) := by decide +kernel
theorem dX9_wordToken_95 : decode cX9_wordToken 95 = .ok (.invokevirtual 59, 3) := by decide +kernel
theorem dX9_wordToken_98 : decode cX9_wordToken 98 = .ok (.iload 6, 2) := by decide +kernel
theorem dX9_wordToken_100 : decode cX9_wordToken 100 = .ok (.if_icmp .ne 7, 3) := by decide +kernel
theorem dX9_wordToken_103 : decode cX9_wordToken 103 = .ok (.iconst 1, 1) := by decide +kernel
theorem dX9_wordToken_104 : decode cX9_wordToken 104 = .ok (.goto 4, 3) := by decide +kernel
theorem dX9_wordToken_107 : decode cX9_wordToken 107 = .ok (.iconst 0, 1) := by decide +kernel
theorem dX9_wordToken_108 : decode cX9_wordToken 108 = .ok (.istore 4, 2) := by decide +kernel
theorem dX9_wordToken_110 : decode cX9_wordToken 110 = .ok (.iinc 3 1, 3) := by decide +kernel
theorem dX9_wordToken_113 : decode cX9_wordToken 113 = .ok (.goto 30, 3) := by decide +kernel
theorem dX9_wordToken_116 : decode cX9_wordToken 116 = .ok (.iload 4, 2) := by decide +kernel
theorem dX9_wordToken_118 : decode cX9_wordToken 118 = .ok (.ifCond .eq 14, 3) := by decide +kernel
theorem dX9_wordToken_121 : decode cX9_wordToken 121 = .ok (.iload_n 3, 1) := by decide +kernel
theorem dX9_wordToken_122 : decode cX9_wordToken 122 = .ok (.iload_n 1, 1) := by decide +kernel
theorem dX9_wordToken_123 : decode cX9_wordToken 123 = .ok (.if_icmp .ne 9, 3) := by decide +kernel
theorem dX9_wordToken_126 : decode cX9_wordToken 126 = .ok (.sipush 10000, 3) := by decide +kernel
theorem dX9_wordToken_129 : decode cX9_wordToken 129 = .ok (.iload_n 2, 1) := by decide +kernel
theorem dX9_wordToken_130 : decode cX9_wordToken 130 = .ok (.iadd, 1) := by decide +kernel
theorem dX9_wordToken_131 : decode cX9_wordToken 131 = .ok (.ireturn, 1) := by decide +kernel
theorem dX9_wordToken_132 : decode cX9_wordToken 132 = .ok (.iinc 2 1, 3) := by decide +kernel
theorem dX9_wordToken_135 : decode cX9_wordToken 135 = .ok (.aload_n 0, 1) := by decide +kernel
theorem dX9_wordToken_136 : decode cX9_wordToken 136 = .ok (.getfield 44, 3) := by decide +kernel
theorem dX9_wordToken_139 : decode cX9_wordToken 139 = .ok (.istore_n 3, 1) := by decide +kernel
theorem dX9_wordToken_140 : decode cX9_wordToken 140 = .ok (.iconst 1, 1) := by decide +kernel
theorem dX9_wordToken_141 : decode cX9_wordToken 141 = .ok (.istore 4, 2) := by decide +kernel
theorem dX9_wordToken_143 : decode cX9_wordToken 143 = .ok (.iinc 5 1, 3) := by decide +kernel
theorem dX9_wordToken_146 : decode cX9_wordToken 146 = .ok (.goto (-92), 3) := by decide +kernel
theorem dX9_wordToken_149 : decode cX9_wordToken 149 = .ok (.bipush (-2), 2) := by decide +kernel
theorem dX9_wordToken_151 : decode cX9_wordToken 151 = .ok (.ireturn, 1) := by decide +kernel
theorem dX9_next_0 : decode cX9_next 0 = .ok (.aload_n 0, 1) := by decide +kernel
theorem dX9_next_1 : decode cX9_next 1 = .ok (.getfield 26, 3) := by decide +kernel
theorem dX9_next_4 : decode cX9_next 4 = .ok (.istore_n 1, 1) := by decide +kernel
theorem dX9_next_5 : decode cX9_next 5 = .ok (.iload_n 1, 1) := by decide +kernel
theorem dX9_next_6 : decode cX9_next 6 = .ok (.aload_n 0, 1) := by decide +kernel
theorem dX9_next_7 : decode cX9_next 7 = .ok (.getfield 15, 3) := by decide +kernel
theorem dX9_next_10 : decode cX9_next 10 = .ok (.getfield 56, 3) := by decide +kernel
theorem dX9_next_13 : decode cX9_next 13 = .ok (.if_icmp .ge 23, 3) := by decide +kernel
theorem dX9_next_16 : decode cX9_next 16 = .ok (.aload_n 0, 1) := by decide +kernel
theorem dX9_next_17 : decode cX9_next 17 = .ok (.getfield 15, 3) := by decide +kernel
theorem dX9_next_20 : decode cX9_next 20 = .ok (.iload_n 1, 1) := by decide +kernel
theorem dX9_next_21 : decode cX9_next 21 = .ok (.invokevirtual 59, 3) := by decide +kernel
theorem dX9_next_24 : decode cX9_next 24 = .ok (.invokestatic 63, 3) := by decide +kernel
theorem dX9_next_27 : decode cX9_next 27 = .ok (.ifCond .eq 9, 3) := by decide +kernel
theorem dX9_next_30 : decode cX9_next 30 = .ok (.iinc 1 1, 3) := by decide +kernel
theorem dX9_next_33 : decode cX9_next 33 = .ok (.goto (-28), 3) := by decide +kernel
theorem dX9_next_36 : decode cX9_next 36 = .ok (.aload_n 0, 1) := by decide +kernel
theorem dX9_next_37 : decode cX9_next 37 = .ok (.getfield 15, 3) := by decide +kernel
theorem dX9_next_40 : decode cX9_next 40 = .ok (.iload_n 1, 1) := by decide +kernel
theorem dX9_next_41 : decode cX9_next 41 = .ok (.invokevirtual 59, 3) := by decide +kernel
theorem dX9_next_44 : decode cX9_next 44 = .ok (.istore_n 2, 1) := by decide +kernel
theorem dX9_next_45 : decode cX9_next 45 = .ok (.aload_n 0, 1) := by decide +kernel
theorem dX9_next_46 : decode cX9_next 46 = .ok (.iload_n 1, 1) := by decide +kernel
theorem dX9_next_47 : decode cX9_next 47 = .ok (.putfield 44, 3) := by decide +kernel
theorem dX9_next_50 : decode cX9_next 50 = .ok (.aload_n 0, 1) := by decide +kernel
theorem dX9_next_51 : decode cX9_next 51 = .ok (.iload_n 1, 1) := by decide +kernel
theorem dX9_next_52 : decode cX9_next 52 = .ok (.iconst 1, 1) := by decide +kernel
theorem dX9_next_53 : decode cX9_next 53 = .ok (.iadd, 1) := by decide +kernel
theorem dX9_next_54 : decode cX9_next 54 = .ok (.putfield 26, 3) := by decide +kernel
theorem dX9_next_57 : decode cX9_next 57 = .ok (.iload_n 1, 1) := by decide +kernel
theorem dX9_next_58 : decode cX9_next 58 = .ok (.aload_n 0, 1) := by decide +kernel
theorem dX9_next_59 : decode cX9_next 59 = .ok (.getfield 15, 3) := by decide +kernel
theorem dX9_next_62 : decode cX9_next 62 = .ok (.getfield 56, 3) := by decide +kernel
theorem dX9_next_65 : decode cX9_next 65 = .ok (.if_icmp .lt 11, 3) := by decide +kernel
theorem dX9_next_68 : decode cX9_next 68 = .ok (.aload_n 0, 1) := by decide +kernel
theorem dX9_next_69 : decode cX9_next 69 = .ok (.iconst (-1), 1) := by decide +kernel
theorem dX9_next_70 : decode cX9_next 70 = .ok (.putfield 41, 3) := by decide +kernel
theorem dX9_next_73 : decode cX9_next 73 = .ok (.goto 64, 3) := by decide +kernel
theorem dX9_next_76 : decode cX9_next 76 = .ok (.iload_n 2, 1) := by decide +kernel
theorem dX9_next_77 : decode cX9_next 77 = .ok (.invokestatic 66, 3) := by decide +kernel
theorem dX9_next_80 : decode cX9_next 80 = .ok (.ifCond .eq 14, 3) := by decide +kernel
theorem dX9_next_83 : decode cX9_next 83 = .ok (.aload_n 0, 1) := by decide +kernel
theorem dX9_next_84 : decode cX9_next 84 = .ok (.aload_n 0, 1) := by decide +kernel
theorem dX9_next_85 : decode cX9_next 85 = .ok (.invokevirtual 69, 3) := by decide +kernel
theorem dX9_next_88 : decode cX9_next 88 = .ok (.putfield 41, 3) := by decide +kernel
theorem dX9_next_91 : decode cX9_next 91 = .ok (.goto 46, 3) := by decide +kernel
theorem dX9_next_94 : decode cX9_next 94 = .ok (.iload_n 2, 1) := by decide +kernel
theorem dX9_next_95 : decode cX9_next 95 = .ok (.invokestatic 73, 3) := by decide +kernel
theorem dX9_next_98 : decode cX9_next 98 = .ok (.iconst (-1), 1) := by decide +kernel
theorem dX9_next_99 : decode cX9_next 99 = .ok (.if_icmp .eq 14, 3) := by decide +kernel
theorem dX9_next_102 : decode cX9_next 102 = .ok (.aload_n 0, 1) := by decide +kernel
theorem dX9_next_103 : decode cX9_next 103 = .ok (.aload_n 0, 1) := by decide +kernel
theorem dX9_next_104 : decode cX9_next 104 = .ok (.invokevirtual 76, 3) := by decide +kernel
theorem dX9_next_107 : decode cX9_next 107 = .ok (.putfield 41, 3) := by decide +kernel
theorem dX9_next_110 : decode cX9_next 110 = .ok (.goto 27, 3) := by decide +kernel
theorem dX9_next_113 : decode cX9_next 113 = .ok (.aload_n 0, 1) := by decide +kernel
theorem dX9_next_114 : decode cX9_next 114 = .ok (.ldc 79, 2) := by decide +kernel
theorem dX9_next_116 : decode cX9_next 116 = .ok (.iload_n 2, 1) := by decide +kernel
theorem dX9_next_117 : decode cX9_next 117 = .ok (.i2c, 1) := by decide +kernel
theorem dX9_next_118 : decode cX9_next 118 = .ok (.invokevirtual 81, 3) := by decide +kernel
theorem dX9_next_121 : decode cX9_next 121 = .ok (.ifCond .lt 11, 3) := by decide +kernel
theorem dX9_next_124 : decode cX9_next 124 = .ok (.sipush 20000, 3) := by decide +kernel
theorem dX9_next_127 : decode cX9_next 127 = .ok (.iload_n 2, 1) := by decide +kernel
theorem dX9_next_128 : decode cX9_next 128 = .ok (.iadd, 1) := by decide +kernel
theorem dX9_next_129 : decode cX9_next 129 = .ok (.goto 5, 3) := by decide +kernel
theorem dX9_next_132 : decode cX9_next 132 = .ok (.bipush (-2), 2) := by decide +kernel
theorem dX9_next_134 : decode cX9_next 134 = .ok (.putfield 41, 3) := by decide +kernel
theorem dX9_next_137 : decode cX9_next 137 = .ok (.return_, 1) := by decide +kernel
theorem dX9_take_0 : decode cX9_take 0 = .ok (.aload_n 0, 1) := by decide +kernel
theorem dX9_take_1 : decode cX9_take 1 = .ok (.getfield 41, 3) := by decide +kernel
theorem dX9_take_4 : decode cX9_take 4 = .ok (.iload_n 1, 1) := by decide +kernel
theorem dX9_take_5 : decode cX9_take 5 = .ok (.if_icmp .eq 5, 3) := by decide +kernel
theorem dX9_take_8 : decode cX9_take 8 = .ok (.iconst 0, 1) := by decide +kernel
theorem dX9_take_9 : decode cX9_take 9 = .ok (.ireturn, 1) := by decide +kernel
theorem dX9_take_10 : decode cX9_take 10 = .ok (.aload_n 0, 1) := by decide +kernel
theorem dX9_take_11 : decode cX9_take 11 = .ok (.invokevirtual 29, 3) := by decide +kernel
theorem dX9_take_14 : decode cX9_take 14 = .ok (.iconst 1, 1) := by decide +kernel
theorem dX9_take_15 : decode cX9_take 15 = .ok (.ireturn, 1) := by decide +kernel
theorem dX9_put_0 : decode cX9_put 0 = .ok (.aload_n 0, 1) := by decide +kernel
theorem dX9_put_1 : decode cX9_put 1 = .ok (.getfield 19, 3) := by decide +kernel
theorem dX9_put_4 : decode cX9_put 4 = .ok (.aload_n 0, 1) := by decide +kernel
theorem dX9_put_5 : decode cX9_put 5 = .ok (.getfield 9, 3) := by decide +kernel
theorem dX9_put_8 : decode cX9_put 8 = .ok (.arraylength, 1) := by decide +kernel
theorem dX9_put_9 : decode cX9_put 9 = .ok (.if_icmp .ge 23, 3) := by decide +kernel
theorem dX9_put_12 : decode cX9_put 12 = .ok (.aload_n 0, 1) := by decide +kernel
theorem dX9_put_13 : decode cX9_put 13 = .ok (.getfield 9, 3) := by decide +kernel
theorem dX9_put_16 : decode cX9_put 16 = .ok (.aload_n 0, 1) := by decide +kernel
theorem dX9_put_17 : decode cX9_put 17 = .ok (.getfield 19, 3) := by decide +kernel
theorem dX9_put_20 : decode cX9_put 20 = .ok (.iload_n 1, 1) := by decide +kernel
theorem dX9_put_21 : decode cX9_put 21 = .ok (.iastore, 1) := by decide +kernel
theorem dX9_put_22 : decode cX9_put 22 = .ok (.aload_n 0, 1) := by decide +kernel
theorem dX9_put_23 : decode cX9_put 23 = .ok (.dup, 1) := by decide +kernel
theorem dX9_put_24 : decode cX9_put 24 = .ok (.getfield 19, 3) := by decide +kernel
theorem dX9_put_27 : decode cX9_put 27 = .ok (.iconst 1, 1) := by decide +kernel
theorem dX9_put_28 : decode cX9_put 28 = .ok (.iadd, 1) := by decide +kernel
theorem dX9_put_29 : decode cX9_put 29 = .ok (.putfield 19, 3) := by decide +kernel
theorem dX9_put_32 : decode cX9_put 32 = .ok (.return_, 1) := by decide +kernel
theorem dX9_readOne_0 : decode cX9_readOne 0 = .ok (.aload_n 0, 1) := by decide +kernel
theorem dX9_readOne_1 : decode cX9_readOne 1 = .ok (.getfield 41, 3) := by decide +kernel
theorem dX9_readOne_4 : decode cX9_readOne 4 = .ok (.invokestatic 114, 3) := by decide +kernel
theorem dX9_readOne_7 : decode cX9_readOne 7 = .ok (.ifCond .eq 17, 3) := by decide +kernel
theorem dX9_readOne_10 : decode cX9_readOne 10 = .ok (.aload_n 0, 1) := by decide +kernel
theorem dX9_readOne_11 : decode cX9_readOne 11 = .ok (.aload_n 0, 1) := by decide +kernel
theorem dX9_readOne_12 : decode cX9_readOne 12 = .ok (.getfield 41, 3) := by decide +kernel
theorem dX9_readOne_15 : decode cX9_readOne 15 = .ok (.invokevirtual 98, 3) := by decide +kernel
theorem dX9_readOne_18 : decode cX9_readOne 18 = .ok (.aload_n 0, 1) := by decide +kernel
theorem dX9_readOne_19 : decode cX9_readOne 19 = .ok (.invokevirtual 29, 3) := by decide +kernel
theorem dX9_readOne_22 : decode cX9_readOne 22 = .ok (.iconst 1, 1) := by decide +kernel
theorem dX9_readOne_23 : decode cX9_readOne 23 = .ok (.ireturn, 1) := by decide +kernel
theorem dX9_readOne_24 : decode cX9_readOne 24 = .ok (.iload_n 1, 1) := by decide +kernel
theorem dX9_readOne_25 : decode cX9_readOne 25 = .ok (.iconst 5, 1) := by decide +kernel
theorem dX9_readOne_26 : decode cX9_readOne 26 = .ok (.if_icmp .lt 5, 3) := by decide +kernel
theorem dX9_readOne_29 : decode cX9_readOne 29 = .ok (.iconst 0, 1) := by decide +kernel
theorem dX9_readOne_30 : decode cX9_readOne 30 = .ok (.ireturn, 1) := by decide +kernel
theorem dX9_readOne_31 : decode cX9_readOne 31 = .ok (.aload_n 0, 1) := by decide +kernel
theorem dX9_readOne_32 : decode cX9_readOne 32 = .ok (.getfield 41, 3) := by decide +kernel
theorem dX9_readOne_35 : decode cX9_readOne 35 = .ok (.sipush 20045, 3) := by decide +kernel
theorem dX9_readOne_38 : decode cX9_readOne 38 = .ok (.if_icmp .ne 24, 3) := by decide +kernel
theorem dX9_readOne_41 : decode cX9_readOne 41 = .ok (.aload_n 0, 1) := by decide +kernel
theorem dX9_readOne_42 : decode cX9_readOne 42 = .ok (.invokevirtual 29, 3) := by decide +kernel
theorem dX9_readOne_45 : decode cX9_readOne 45 = .ok (.aload_n 0, 1) := by decide +kernel
theorem dX9_readOne_46 : decode cX9_readOne 46 = .ok (.iload_n 1, 1) := by decide +kernel
theorem dX9_readOne_47 : decode cX9_readOne 47 = .ok (.iconst 1, 1) := by decide +kernel
theorem dX9_readOne_48 : decode cX9_readOne 48 = .ok (.iadd, 1) := by decide +kernel
theorem dX9_readOne_49 : decode cX9_readOne 49 = .ok (.invokevirtual 111, 3) := by decide +kernel
theorem dX9_readOne_52 : decode cX9_readOne 52 = .ok (.istore_n 2, 1) := by decide +kernel
theorem dX9_readOne_53 : decode cX9_readOne 53 = .ok (.aload_n 0, 1) := by decide +kernel
theorem dX9_readOne_54 : decode cX9_readOne 54 = .ok (.sipush 30000, 3) := by decide +kernel
theorem dX9_readOne_57 : decode cX9_readOne 57 = .ok (.invokevirtual 98, 3) := by decide +kernel
theorem dX9_readOne_60 : decode cX9_readOne 60 = .ok (.iload_n 2, 1) := by decide +kernel
theorem dX9_readOne_61 : decode cX9_readOne 61 = .ok (.ireturn, 1) := by decide +kernel
theorem dX9_readOne_62 : decode cX9_readOne 62 = .ok (.aload_n 0, 1) := by decide +kernel
theorem dX9_readOne_63 : decode cX9_readOne 63 = .ok (.sipush 20040, 3) := by decide +kernel
theorem dX9_readOne_66 : decode cX9_readOne 66 = .ok (.invokevirtual 34, 3) := by decide +kernel
theorem dX9_readOne_69 : decode cX9_readOne 69 = .ok (.ifCond .eq 27, 3) := by decide +kernel
theorem dX9_readOne_72 : decode cX9_readOne 72 = .ok (.aload_n 0, 1) := by decide +kernel
theorem dX9_readOne_73 : decode cX9_readOne 73 = .ok (.iload_n 1, 1) := by decide +kernel
theorem dX9_readOne_74 : decode cX9_readOne 74 = .ok (.iconst 1, 1) := by decide +kernel
theorem dX9_readOne_75 : decode cX9_readOne 75 = .ok (.iadd, 1) := by decide +kernel
theorem dX9_readOne_76 : decode cX9_readOne 76 = .ok (.invokevirtual 38, 3) := by decide +kernel
theorem dX9_readOne_79 : decode cX9_readOne 79 = .ok (.ifCond .eq 17, 3) := by decide +kernel
theorem dX9_readOne_82 : decode cX9_readOne 82 = .ok (.aload_n 0, 1) := by decide +kernel
theorem dX9_readOne_83 : decode cX9_readOne 83 = .ok (.sipush 20041, 3) := by decide +kernel
theorem dX9_readOne_86 : decode cX9_readOne 86 = .ok (.invokevirtual 34, 3) := by decide +kernel
theorem dX9_readOne_89 : decode cX9_readOne 89 = .ok (.ifCond .eq 7, 3) := by decide +kernel
theorem dX9_readOne_92 : decode cX9_readOne 92 = .ok (.iconst 1, 1) := by decide +kernel
theorem dX9_readOne_93 : decode cX9_readOne 93 = .ok (.goto 4, 3) := by decide +kernel
theorem dX9_readOne_96 : decode cX9_readOne 96 = .ok (.iconst 0, 1) := by decide +kernel
theorem dX9_readOne_97 : decode cX9_readOne 97 = .ok (.ireturn, 1) := by decide +kernel
theorem dX9_readTerm_0 : decode cX9_readTerm 0 = .ok (.aload_n 0, 1) := by decide +kernel
theorem dX9_readTerm_1 : decode cX9_readTerm 1 = .ok (.iload_n 1, 1) := by decide +kernel
theorem dX9_readTerm_2 : decode cX9_readTerm 2 = .ok (.invokevirtual 111, 3) := by decide +kernel
theorem dX9_readTerm_5 : decode cX9_readTerm 5 = .ok (.istore_n 2, 1) := by decide +kernel
theorem dX9_readTerm_6 : decode cX9_readTerm 6 = .ok (.iconst 0, 1) := by decide +kernel
theorem dX9_readTerm_7 : decode cX9_readTerm 7 = .ok (.istore_n 3, 1) := by decide +kernel
theorem dX9_readTerm_8 : decode cX9_readTerm 8 = .ok (.iload_n 3, 1) := by decide +kernel
theorem dX9_readTerm_9 : decode cX9_readTerm 9 = .ok (.sipush 160, 3) := by decide +kernel
theorem dX9_readTerm_12 : decode cX9_readTerm 12 = .ok (.if_icmp .ge 40, 3) := by decide +kernel
theorem dX9_readTerm_15 : decode cX9_readTerm 15 = .ok (.iload_n 2, 1) := by decide +kernel
theorem dX9_readTerm_16 : decode cX9_readTerm 16 = .ok (.ifCond .eq 36, 3) := by decide +kernel
theorem dX9_readTerm_19 : decode cX9_readTerm 19 = .ok (.aload_n 0, 1) := by decide +kernel
theorem dX9_readTerm_20 : decode cX9_readTerm 20 = .ok (.getfield 41, 3) := by decide +kernel
theorem dX9_readTerm_23 : decode cX9_readTerm 23 = .ok (.sipush 20042, 3) := by decide +kernel
theorem dX9_readTerm_26 : decode cX9_readTerm 26 = .ok (.if_icmp .ne 26, 3) := by decide +kernel
theorem dX9_readTerm_29 : decode cX9_readTerm 29 = .ok (.aload_n 0, 1) := by decide +kernel
theorem dX9_readTerm_30 : decode cX9_readTerm 30 = .ok (.invokevirtual 29, 3) := by decide +kernel
theorem dX9_readTerm_33 : decode cX9_readTerm 33 = .ok (.aload_n 0, 1) := by decide +kernel
theorem dX9_readTerm_34 : decode cX9_readTerm 34 = .ok (.iload_n 1, 1) := by decide +kernel
theorem dX9_readTerm_35 : decode cX9_readTerm 35 = .ok (.invokevirtual 111, 3) := by decide +kernel
theorem dX9_readTerm_38 : decode cX9_readTerm 38 = .ok (.istore_n 2, 1) := by decide +kernel
theorem dX9_readTerm_39 : decode cX9_readTerm 39 = .ok (.aload_n 0, 1) := by decide +kernel
theorem dX9_readTerm_40 : decode cX9_readTerm 40 = .ok (.sipush 20042, 3) := by decide +kernel
theorem dX9_readTerm_43 : decode cX9_readTerm 43 = .ok (.invokevirtual 98, 3) := by decide +kernel
theorem dX9_readTerm_46 : decode cX9_readTerm 46 = .ok (.iinc 3 1, 3) := by decide +kernel
theorem dX9_readTerm_49 : decode cX9_readTerm 49 = .ok (.goto (-41), 3) := by decide +kernel
theorem dX9_readTerm_52 : decode cX9_readTerm 52 = .ok (.iload_n 2, 1) := by decide +kernel
theorem dX9_readTerm_53 : decode cX9_readTerm 53 = .ok (.ireturn, 1) := by decide +kernel
theorem dX9_readSum_0 : decode cX9_readSum 0 = .ok (.aload_n 0, 1) := by decide +kernel
theorem dX9_readSum_1 : decode cX9_readSum 1 = .ok (.iload_n 1, 1) := by decide +kernel
theorem dX9_readSum_2 : decode cX9_readSum 2 = .ok (.invokevirtual 108, 3) := by decide +kernel
theorem dX9_readSum_5 : decode cX9_readSum 5 = .ok (.istore_n 2, 1) := by decide +kernel
theorem dX9_readSum_6 : decode cX9_readSum 6 = .ok (.iconst 0, 1) := by decide +kernel
theorem dX9_readSum_7 : decode cX9_readSum 7 = .ok (.istore_n 3, 1) := by decide +kernel
theorem dX9_readSum_8 : decode cX9_readSum 8 = .ok (.iload_n 3, 1) := by decide +kernel
theorem dX9_readSum_9 : decode cX9_readSum 9 = .ok (.sipush 160, 3) := by decide +kernel
theorem dX9_readSum_12 : decode cX9_readSum 12 = .ok (.if_icmp .ge 55, 3) := by decide +kernel
theorem dX9_readSum_15 : decode cX9_readSum 15 = .ok (.iload_n 2, 1) := by decide +kernel
theorem dX9_readSum_16 : decode cX9_readSum 16 = .ok (.ifCond .eq 51, 3) := by decide +kernel
theorem dX9_readSum_19 : decode cX9_readSum 19 = .ok (.aload_n 0, 1) := by decide +kernel
theorem dX9_readSum_20 : decode cX9_readSum 20 = .ok (.getfield 41, 3) := by decide +kernel
theorem dX9_readSum_23 : decode cX9_readSum 23 = .ok (.sipush 20043, 3) := by decide +kernel
theorem dX9_readSum_26 : decode cX9_readSum 26 = .ok (.if_icmp .eq 13, 3) := by decide +kernel
theorem dX9_readSum_29 : decode cX9_readSum 29 = .ok (.aload_n 0, 1) := by decide +kernel
theorem dX9_readSum_30 : decode cX9_readSum 30 = .ok (.getfield 41, 3) := by decide +kernel
theorem dX9_readSum_33 : decode cX9_readSum 33 = .ok (.sipush 20045, 3) := by decide +kernel
theorem dX9_readSum_36 : decode cX9_readSum 36 = .ok (.if_icmp .ne 31, 3) := by decide +kernel
theorem dX9_readSum_39 : decode cX9_readSum 39 = .ok (.aload_n 0, 1) := by decide +kernel
theorem dX9_readSum_40 : decode cX9_readSum 40 = .ok (.getfield 41, 3) := by decide +kernel
theorem dX9_readSum_43 : decode cX9_readSum 43 = .ok (.istore 4, 2) := by decide +kernel
theorem dX9_readSum_45 : decode cX9_readSum 45 = .ok (.aload_n 0, 1) := by decide +kernel
theorem dX9_readSum_46 : decode cX9_readSum 46 = .ok (.invokevirtual 29, 3) := by decide +kernel
theorem dX9_readSum_49 : decode cX9_readSum 49 = .ok (.aload_n 0, 1) := by decide +kernel
theorem dX9_readSum_50 : decode cX9_readSum 50 = .ok (.iload_n 1, 1) := by decide +kernel
theorem dX9_readSum_51 : decode cX9_readSum 51 = .ok (.invokevirtual 108, 3) := by decide +kernel
theorem dX9_readSum_54 : decode cX9_readSum 54 = .ok (.istore_n 2, 1) := by decide +kernel
theorem dX9_readSum_55 : decode cX9_readSum 55 = .ok (.aload_n 0, 1) := by decide +kernel
theorem dX9_readSum_56 : decode cX9_readSum 56 = .ok (.iload 4, 2) := by decide +kernel
theorem dX9_readSum_58 : decode cX9_readSum 58 = .ok (.invokevirtual 98, 3) := by decide +kernel
theorem dX9_readSum_61 : decode cX9_readSum 61 = .ok (.iinc 3 1, 3) := by decide +kernel
theorem dX9_readSum_64 : decode cX9_readSum 64 = .ok (.goto (-56), 3) := by decide +kernel
theorem dX9_readSum_67 : decode cX9_readSum 67 = .ok (.iload_n 2, 1) := by decide +kernel
theorem dX9_readSum_68 : decode cX9_readSum 68 = .ok (.ireturn, 1) := by decide +kernel
theorem dX9_readNot_0 : decode cX9_readNot 0 = .ok (.aload_n 0, 1) := by decide +kernel
theorem dX9_readNot_1 : decode cX9_readNot 1 = .ok (.getfield 41, 3) := by decide +kernel
theorem dX9_readNot_4 : decode cX9_readNot 4 = .ok (.sipush 10010, 3) := by decide +kernel
theorem dX9_readNot_7 : decode cX9_readNot 7 = .ok (.if_icmp .ne 31, 3) := by decide +kernel
theorem dX9_readNot_10 : decode cX9_readNot 10 = .ok (.iload_n 1, 1) := by decide +kernel
theorem dX9_readNot_11 : decode cX9_readNot 11 = .ok (.iconst 5, 1) := by decide +kernel
theorem dX9_readNot_12 : decode cX9_readNot 12 = .ok (.if_icmp .lt 5, 3) := by decide +kernel
theorem dX9_readNot_15 : decode cX9_readNot 15 = .ok (.iconst 0, 1) := by decide +kernel
theorem dX9_readNot_16 : decode cX9_readNot 16 = .ok (.ireturn, 1) := by decide +kernel
theorem dX9_readNot_17 : decode cX9_readNot 17 = .ok (.aload_n 0, 1) := by decide +kernel
theorem dX9_readNot_18 : decode cX9_readNot 18 = .ok (.invokevirtual 29, 3) := by decide +kernel
theorem dX9_readNot_21 : decode cX9_readNot 21 = .ok (.aload_n 0, 1) := by decide +kernel
theorem dX9_readNot_22 : decode cX9_readNot 22 = .ok (.iload_n 1, 1) := by decide +kernel
theorem dX9_readNot_23 : decode cX9_readNot 23 = .ok (.iconst 1, 1) := by decide +kernel
theorem dX9_readNot_24 : decode cX9_readNot 24 = .ok (.iadd, 1) := by decide +kernel
theorem dX9_readNot_25 : decode cX9_readNot 25 = .ok (.invokevirtual 102, 3) := by decide +kernel
theorem dX9_readNot_28 : decode cX9_readNot 28 = .ok (.istore_n 2, 1) := by decide +kernel
theorem dX9_readNot_29 : decode cX9_readNot 29 = .ok (.aload_n 0, 1) := by decide +kernel
theorem dX9_readNot_30 : decode cX9_readNot 30 = .ok (.sipush 10010, 3) := by decide +kernel
theorem dX9_readNot_33 : decode cX9_readNot 33 = .ok (.invokevirtual 98, 3) := by decide +kernel
theorem dX9_readNot_36 : decode cX9_readNot 36 = .ok (.iload_n 2, 1) := by decide +kernel
theorem dX9_readNot_37 : decode cX9_readNot 37 = .ok (.ireturn, 1) := by decide +kernel
theorem dX9_readNot_38 : decode cX9_readNot 38 = .ok (.aload_n 0, 1) := by decide +kernel
theorem dX9_readNot_39 : decode cX9_readNot 39 = .ok (.iload_n 1, 1) := by decide +kernel
theorem dX9_readNot_40 : decode cX9_readNot 40 = .ok (.invokevirtual 105, 3) := by decide +kernel
theorem dX9_readNot_43 : decode cX9_readNot 43 = .ok (.istore_n 2, 1) := by decide +kernel
theorem dX9_readNot_44 : decode cX9_readNot 44 = .ok (.aload_n 0, 1) := by decide +kernel
theorem dX9_readNot_45 : decode cX9_readNot 45 = .ok (.getfield 41, 3) := by decide +kernel
theorem dX9_readNot_48 : decode cX9_readNot 48 = .ok (.istore_n 3, 1) := by decide +kernel
theorem dX9_readNot_49 : decode cX9_readNot 49 = .ok (.iload_n 2, 1) := by decide +kernel
theorem dX9_readNot_50 : decode cX9_readNot 50 = .ok (.ifCond .eq 32, 3) := by decide +kernel
theorem dX9_readNot_53 : decode cX9_readNot 53 = .ok (.iload_n 3, 1) := by decide +kernel
theorem dX9_readNot_54 : decode cX9_readNot 54 = .ok (.sipush 20060, 3) := by decide +kernel
theorem dX9_readNot_57 : decode cX9_readNot 57 = .ok (.if_icmp .eq 10, 3) := by decide +kernel
theorem dX9_readNot_60 : decode cX9_readNot 60 = .ok (.iload_n 3, 1) := by decide +kernel
theorem dX9_readNot_61 : decode cX9_readNot 61 = .ok (.sipush 20061, 3) := by decide +kernel
theorem dX9_readNot_64 : decode cX9_readNot 64 = .ok (.if_icmp .ne 18, 3) := by decide +kernel
theorem dX9_readNot_67 : decode cX9_readNot 67 = .ok (.aload_n 0, 1) := by decide +kernel
theorem dX9_readNot_68 : decode cX9_readNot 68 = .ok (.invokevirtual 29, 3) := by decide +kernel
theorem dX9_readNot_71 : decode cX9_readNot 71 = .ok (.aload_n 0, 1) := by decide +kernel
theorem dX9_readNot_72 : decode cX9_readNot 72 = .ok (.iload_n 1, 1) := by decide +kernel
theorem dX9_readNot_73 : decode cX9_readNot 73 = .ok (.invokevirtual 105, 3) := by decide +kernel
theorem dX9_readNot_76 : decode cX9_readNot 76 = .ok (.istore_n 2, 1) := by decide +kernel
theorem dX9_readNot_77 : decode cX9_readNot 77 = .ok (.aload_n 0, 1) := by decide +kernel
theorem dX9_readNot_78 : decode cX9_readNot 78 = .ok (.iload_n 3, 1) := by decide +kernel
theorem dX9_readNot_79 : decode cX9_readNot 79 = .ok (.invokevirtual 98, 3) := by decide +kernel
theorem dX9_readNot_82 : decode cX9_readNot 82 = .ok (.iload_n 2, 1) := by decide +kernel
theorem dX9_readNot_83 : decode cX9_readNot 83 = .ok (.ireturn, 1) := by decide +kernel
theorem dX9_readBoth_0 : decode cX9_readBoth 0 = .ok (.aload_n 0, 1) := by decide +kernel
theorem dX9_readBoth_1 : decode cX9_readBoth 1 = .ok (.iload_n 1, 1) := by decide +kernel
theorem dX9_readBoth_2 : decode cX9_readBoth 2 = .ok (.invokevirtual 102, 3) := by decide +kernel
theorem dX9_readBoth_5 : decode cX9_readBoth 5 = .ok (.istore_n 2, 1) := by decide +kernel
theorem dX9_readBoth_6 : decode cX9_readBoth 6 = .ok (.iconst 0, 1) := by decide +kernel
theorem dX9_readBoth_7 : decode cX9_readBoth 7 = .ok (.istore_n 3, 1) := by decide +kernel
theorem dX9_readBoth_8 : decode cX9_readBoth 8 = .ok (.iload_n 3, 1) := by decide +kernel
theorem dX9_readBoth_9 : decode cX9_readBoth 9 = .ok (.sipush 160, 3) := by decide +kernel
theorem dX9_readBoth_12 : decode cX9_readBoth 12 = .ok (.if_icmp .ge 40, 3) := by decide +kernel
theorem dX9_readBoth_15 : decode cX9_readBoth 15 = .ok (.iload_n 2, 1) := by decide +kernel
theorem dX9_readBoth_16 : decode cX9_readBoth 16 = .ok (.ifCond .eq 36, 3) := by decide +kernel
theorem dX9_readBoth_19 : decode cX9_readBoth 19 = .ok (.aload_n 0, 1) := by decide +kernel
theorem dX9_readBoth_20 : decode cX9_readBoth 20 = .ok (.getfield 41, 3) := by decide +kernel
theorem dX9_readBoth_23 : decode cX9_readBoth 23 = .ok (.sipush 10009, 3) := by decide +kernel
theorem dX9_readBoth_26 : decode cX9_readBoth 26 = .ok (.if_icmp .ne 26, 3) := by decide +kernel
theorem dX9_readBoth_29 : decode cX9_readBoth 29 = .ok (.aload_n 0, 1) := by decide +kernel
theorem dX9_readBoth_30 : decode cX9_readBoth 30 = .ok (.invokevirtual 29, 3) := by decide +kernel
theorem dX9_readBoth_33 : decode cX9_readBoth 33 = .ok (.aload_n 0, 1) := by decide +kernel
theorem dX9_readBoth_34 : decode cX9_readBoth 34 = .ok (.iload_n 1, 1) := by decide +kernel
theorem dX9_readBoth_35 : decode cX9_readBoth 35 = .ok (.invokevirtual 102, 3) := by decide +kernel
theorem dX9_readBoth_38 : decode cX9_readBoth 38 = .ok (.istore_n 2, 1) := by decide +kernel
theorem dX9_readBoth_39 : decode cX9_readBoth 39 = .ok (.aload_n 0, 1) := by decide +kernel
theorem dX9_readBoth_40 : decode cX9_readBoth 40 = .ok (.sipush 10009, 3) := by decide +kernel
theorem dX9_readBoth_43 : decode cX9_readBoth 43 = .ok (.invokevirtual 98, 3) := by decide +kernel
theorem dX9_readBoth_46 : decode cX9_readBoth 46 = .ok (.iinc 3 1, 3) := by decide +kernel
theorem dX9_readBoth_49 : decode cX9_readBoth 49 = .ok (.goto (-41), 3) := by decide +kernel
theorem dX9_readBoth_52 : decode cX9_readBoth 52 = .ok (.iload_n 2, 1) := by decide +kernel
theorem dX9_readBoth_53 : decode cX9_readBoth 53 = .ok (.ireturn, 1) := by decide +kernel
theorem dX9_readEither_0 : decode cX9_readEither 0 = .ok (.aload_n 0, 1) := by decide +kernel
theorem dX9_readEither_1 : decode cX9_readEither 1 = .ok (.iload_n 1, 1) := by decide +kernel
theorem dX9_readEither_2 : decode cX9_readEither 2 = .ok (.invokevirtual 95, 3) := by decide +kernel
theorem dX9_readEither_5 : decode cX9_readEither 5 = .ok (.istore_n 2, 1) := by decide +kernel
theorem dX9_readEither_6 : decode cX9_readEither 6 = .ok (.iconst 0, 1) := by decide +kernel
theorem dX9_readEither_7 : decode cX9_readEither 7 = .ok (.istore_n 3, 1) := by decide +kernel
theorem dX9_readEither_8 : decode cX9_readEither 8 = .ok (.iload_n 3, 1) := by decide +kernel
theorem dX9_readEither_9 : decode cX9_readEither 9 = .ok (.sipush 160, 3) := by decide +kernel
theorem dX9_readEither_12 : decode cX9_readEither 12 = .ok (.if_icmp .ge 40, 3) := by decide +kernel
theorem dX9_readEither_15 : decode cX9_readEither 15 = .ok (.iload_n 2, 1) := by decide +kernel
theorem dX9_readEither_16 : decode cX9_readEither 16 = .ok (.ifCond .eq 36, 3) := by decide +kernel
theorem dX9_readEither_19 : decode cX9_readEither 19 = .ok (.aload_n 0, 1) := by decide +kernel
theorem dX9_readEither_20 : decode cX9_readEither 20 = .ok (.getfield 41, 3) := by decide +kernel
theorem dX9_readEither_23 : decode cX9_readEither 23 = .ok (.sipush 10008, 3) := by decide +kernel
theorem dX9_readEither_26 : decode cX9_readEither 26 = .ok (.if_icmp .ne 26, 3) := by decide +kernel
theorem dX9_readEither_29 : decode cX9_readEither 29 = .ok (.aload_n 0, 1) := by decide +kernel
theorem dX9_readEither_30 : decode cX9_readEither 30 = .ok (.invokevirtual 29, 3) := by decide +kernel
theorem dX9_readEither_33 : decode cX9_readEither 33 = .ok (.aload_n 0, 1) := by decide +kernel
theorem dX9_readEither_34 : decode cX9_readEither 34 = .ok (.iload_n 1, 1) := by decide +kernel
theorem dX9_readEither_35 : decode cX9_readEither 35 = .ok (.invokevirtual 95, 3) := by decide +kernel
theorem dX9_readEither_38 : decode cX9_readEither 38 = .ok (.istore_n 2, 1) := by decide +kernel
theorem dX9_readEither_39 : decode cX9_readEither 39 = .ok (.aload_n 0, 1) := by decide +kernel
theorem dX9_readEither_40 : decode cX9_readEither 40 = .ok (.sipush 10008, 3) := by decide +kernel
theorem dX9_readEither_43 : decode cX9_readEither 43 = .ok (.invokevirtual 98, 3) := by decide +kernel
theorem dX9_readEither_46 : decode cX9_readEither 46 = .ok (.iinc 3 1, 3) := by decide +kernel
theorem dX9_readEither_49 : decode cX9_readEither 49 = .ok (.goto (-41), 3) := by decide +kernel
theorem dX9_readEither_52 : decode cX9_readEither 52 = .ok (.iload_n 2, 1) := by decide +kernel
theorem dX9_readEither_53 : decode cX9_readEither 53 = .ok (.ireturn, 1) := by decide +kernel
theorem dX9_findFault_0 : decode cX9_findFault 0 = .ok (.aload_n 0, 1) := by decide +kernel
theorem dX9_findFault_1 : decode cX9_findFault 1 = .ok (.iconst 0, 1) := by decide +kernel
theorem dX9_findFault_2 : decode cX9_findFault 2 = .ok (.putfield 19, 3) := by decide +kernel
theorem dX9_findFault_5 : decode cX9_findFault 5 = .ok (.aload_n 0, 1) := by decide +kernel
theorem dX9_findFault_6 : decode cX9_findFault 6 = .ok (.iconst 0, 1) := by decide +kernel
theorem dX9_findFault_7 : decode cX9_findFault 7 = .ok (.putfield 23, 3) := by decide +kernel
theorem dX9_findFault_10 : decode cX9_findFault 10 = .ok (.aload_n 0, 1) := by decide +kernel
theorem dX9_findFault_11 : decode cX9_findFault 11 = .ok (.iconst 0, 1) := by decide +kernel
theorem dX9_findFault_12 : decode cX9_findFault 12 = .ok (.putfield 26, 3) := by decide +kernel
theorem dX9_findFault_15 : decode cX9_findFault 15 = .ok (.aload_n 0, 1) := by decide +kernel
theorem dX9_findFault_16 : decode cX9_findFault 16 = .ok (.invokevirtual 29, 3) := by decide +kernel
theorem dX9_findFault_19 : decode cX9_findFault 19 = .ok (.aload_n 0, 1) := by decide +kernel
theorem dX9_findFault_20 : decode cX9_findFault 20 = .ok (.sipush 10006, 3) := by decide +kernel
theorem dX9_findFault_23 : decode cX9_findFault 23 = .ok (.invokevirtual 34, 3) := by decide +kernel
theorem dX9_findFault_26 : decode cX9_findFault 26 = .ok (.ifCond .eq 25, 3) := by decide +kernel
theorem dX9_findFault_29 : decode cX9_findFault 29 = .ok (.aload_n 0, 1) := by decide +kernel
theorem dX9_findFault_30 : decode cX9_findFault 30 = .ok (.iconst 0, 1) := by decide +kernel
theorem dX9_findFault_31 : decode cX9_findFault 31 = .ok (.invokevirtual 38, 3) := by decide +kernel
theorem dX9_findFault_34 : decode cX9_findFault 34 = .ok (.ifCond .eq 17, 3) := by decide +kernel
theorem dX9_findFault_37 : decode cX9_findFault 37 = .ok (.aload_n 0, 1) := by decide +kernel
theorem dX9_findFault_38 : decode cX9_findFault 38 = .ok (.sipush 20059, 3) := by decide +kernel
theorem dX9_findFault_41 : decode cX9_findFault 41 = .ok (.invokevirtual 34, 3) := by decide +kernel
theorem dX9_findFault_44 : decode cX9_findFault 44 = .ok (.ifCond .eq 7, 3) := by decide +kernel
theorem dX9_findFault_47 : decode cX9_findFault 47 = .ok (.iconst 1, 1) := by decide +kernel
theorem dX9_findFault_48 : decode cX9_findFault 48 = .ok (.goto 4, 3) := by decide +kernel
theorem dX9_findFault_51 : decode cX9_findFault 51 = .ok (.iconst 0, 1) := by decide +kernel
theorem dX9_findFault_52 : decode cX9_findFault 52 = .ok (.istore_n 1, 1) := by decide +kernel
theorem dX9_findFault_53 : decode cX9_findFault 53 = .ok (.aload_n 0, 1) := by decide +kernel
theorem dX9_findFault_54 : decode cX9_findFault 54 = .ok (.aload_n 0, 1) := by decide +kernel
theorem dX9_findFault_55 : decode cX9_findFault 55 = .ok (.getfield 19, 3) := by decide +kernel
theorem dX9_findFault_58 : decode cX9_findFault 58 = .ok (.putfield 23, 3) := by decide +kernel
theorem dX9_findFault_61 : decode cX9_findFault 61 = .ok (.iload_n 1, 1) := by decide +kernel
theorem dX9_findFault_62 : decode cX9_findFault 62 = .ok (.ifCond .eq 35, 3) := by decide +kernel
theorem dX9_findFault_65 : decode cX9_findFault 65 = .ok (.aload_n 0, 1) := by decide +kernel
theorem dX9_findFault_66 : decode cX9_findFault 66 = .ok (.sipush 10007, 3) := by decide +kernel
theorem dX9_findFault_69 : decode cX9_findFault 69 = .ok (.invokevirtual 34, 3) := by decide +kernel
theorem dX9_findFault_72 : decode cX9_findFault 72 = .ok (.ifCond .eq 25, 3) := by decide +kernel
theorem dX9_findFault_75 : decode cX9_findFault 75 = .ok (.aload_n 0, 1) := by decide +kernel
theorem dX9_findFault_76 : decode cX9_findFault 76 = .ok (.iconst 0, 1) := by decide +kernel
theorem dX9_findFault_77 : decode cX9_findFault 77 = .ok (.invokevirtual 38, 3) := by decide +kernel
theorem dX9_findFault_80 : decode cX9_findFault 80 = .ok (.ifCond .eq 17, 3) := by decide +kernel
theorem dX9_findFault_83 : decode cX9_findFault 83 = .ok (.aload_n 0, 1) := by decide +kernel
theorem dX9_findFault_84 : decode cX9_findFault 84 = .ok (.sipush 20059, 3) := by decide +kernel
theorem dX9_findFault_87 : decode cX9_findFault 87 = .ok (.invokevirtual 34, 3) := by decide +kernel
theorem dX9_findFault_90 : decode cX9_findFault 90 = .ok (.ifCond .eq 7, 3) := by decide +kernel
theorem dX9_findFault_93 : decode cX9_findFault 93 = .ok (.iconst 1, 1) := by decide +kernel
theorem dX9_findFault_94 : decode cX9_findFault 94 = .ok (.goto 4, 3) := by decide +kernel
theorem dX9_findFault_97 : decode cX9_findFault 97 = .ok (.iconst 0, 1) := by decide +kernel
theorem dX9_findFault_98 : decode cX9_findFault 98 = .ok (.istore_n 1, 1) := by decide +kernel
theorem dX9_findFault_99 : decode cX9_findFault 99 = .ok (.iload_n 1, 1) := by decide +kernel
theorem dX9_findFault_100 : decode cX9_findFault 100 = .ok (.ifCond .eq 15, 3) := by decide +kernel
theorem dX9_findFault_103 : decode cX9_findFault 103 = .ok (.aload_n 0, 1) := by decide +kernel
theorem dX9_findFault_104 : decode cX9_findFault 104 = .ok (.getfield 41, 3) := by decide +kernel
theorem dX9_findFault_107 : decode cX9_findFault 107 = .ok (.iconst (-1), 1) := by decide +kernel
theorem dX9_findFault_108 : decode cX9_findFault 108 = .ok (.if_icmp .ne 7, 3) := by decide +kernel
theorem dX9_findFault_111 : decode cX9_findFault 111 = .ok (.iconst (-1), 1) := by decide +kernel
theorem dX9_findFault_112 : decode cX9_findFault 112 = .ok (.goto 7, 3) := by decide +kernel
theorem dX9_findFault_115 : decode cX9_findFault 115 = .ok (.aload_n 0, 1) := by decide +kernel
theorem dX9_findFault_116 : decode cX9_findFault 116 = .ok (.getfield 44, 3) := by decide +kernel
theorem dX9_findFault_119 : decode cX9_findFault 119 = .ok (.ireturn, 1) := by decide +kernel
set_option maxHeartbeats 4000000 in
set_option maxRecDepth 100000 in
theorem c_X4_has {l : Launch} {w : Wd} (hW : HWd w shX rX 66) (σ : St) (a2 : Int32)  : ∀ res, f_X4_has σ a2 = some res → MtI l yX4_has cX4_has 2 .boolean 0 0 w [.ref (wA w 20), .int a2] σ (res, σ) := by
  refine mt_P (by decide) rfl hW (fun X hl0 hC hret => ?_)
  show RF X w (Aw w (xs_ X).heap.size) 2 (fun r => QI X w (r, σ)) (f_X4_has σ a2) 0 [(0, .ref (wA w 20)), (1, .int a2)] [] σ
  unfold f_X4_has
  refine r_iload_n hC dX4_has_0 rfl 1 rfl ?_
  refine r_if_lt hC 16 dX4_has_1 (by decide) (fun c1 => ?_) (fun c1 => ?_)
  · refine r_iconst (v := 0) hC dX4_has_16 (by decide) ?_
    exact r_iretP hC hret rfl dX4_has_17
  · refine r_iload_n hC dX4_has_4 rfl 1 rfl ?_
    refine r_aload_n hC dX4_has_5 rfl 0 rfl ?_
    refine r_getI hC clX4 20 3 rfl rfl (hC.n rfl) rfl lf_X4_24 dX4_has_6 ?_
    refine r_nmI (fun v2 => ?_)
    refine r_icmp_ge hC 16 dX4_has_9 (by decide) (fun c3 => ?_) (fun c3 => ?_)
    · refine r_iconst (v := 0) hC dX4_has_16 (by decide) ?_
      exact r_iretP hC hret rfl dX4_has_17
    · refine r_iconst (v := 1) hC dX4_has_12 (by decide) ?_
      refine r_goto hC 17 dX4_has_13 (by decide) ?_
      exact r_iretP hC hret rfl dX4_has_17
set_option maxHeartbeats 4000000 in
set_option maxRecDepth 100000 in
theorem c_X4_isFull {l : Launch} {w : Wd} (hW : HWd w shX rX 66) (σ : St)   : ∀ res, f_X4_isFull σ = some res → MtI l yX4_isFull cX4_isFull 1 .boolean 0 0 w [.ref (wA w 20)] σ (res, σ) := by
  refine mt_P (by decide) rfl hW (fun X hl0 hC hret => ?_)
  show RF X w (Aw w (xs_ X).heap.size) 1 (fun r => QI X w (r, σ)) (f_X4_isFull σ) 0 [(0, .ref (wA w 20))] [] σ
  unfold f_X4_isFull
  refine r_aload_n hC dX4_isFull_0 rfl 0 rfl ?_
  refine r_getI hC clX4 20 3 rfl rfl (hC.n rfl) rfl lf_X4_24 dX4_isFull_1 ?_
  refine r_nmI (fun v1 => ?_)
  refine r_bipush (v := 8) hC dX4_isFull_4 (by decide) ?_
  refine r_icmp_lt hC 13 dX4_isFull_6 (by decide) (fun c2 => ?_) (fun c2 => ?_)
  · refine r_iconst (v := 0) hC dX4_isFull_13 (by decide) ?_
    exact r_iretP hC hret rfl dX4_isFull_14
  · refine r_iconst (v := 1) hC dX4_isFull_9 (by decide) ?_
    refine r_goto hC 14 dX4_isFull_10 (by decide) ?_
    exact r_iretP hC hret rfl dX4_isFull_14
set_option maxHeartbeats 4000000 in
set_option maxRecDepth 100000 in
theorem c_X4_kindOf {l : Launch} {w : Wd} (hW : HWd w shX rX 66) (σ : St) (a2 : Int32) (a3 : Int32)  : ∀ res, f_X4_kindOf σ a2 a3 = some res → MtI l yX4_kindOf cX4_kindOf 3 .int 1 21 w [.ref (wA w 20), .int a2, .int a3] σ (res, σ) := by
  refine mt_P (by decide) rfl hW (fun X hl0 hC hret => ?_)
  show RF X w (Aw w (xs_ X).heap.size) 3 (fun r => QI X w (r, σ)) (f_X4_kindOf σ a2 a3) 0 [(0, .ref (wA w 20)), (1, .int a2), (2, .int a3)] [] σ
  unfold f_X4_kindOf
  refine r_aload_n hC dX4_kindOf_0 rfl 0 rfl ?_
  refine r_iload_n hC dX4_kindOf_1 rfl 1 rfl ?_
  refine r_callVP hC (b := 20) (ci := 4) (st := []) [.int a2] rfl (hC.n rfl) rfl rfl (c_X4_has hC.w σ a2) yk_X4_has lm_X4_28 rfl ⟨rfl, rfl⟩ rfl dX4_kindOf_2 (fun v1 => ?_)
  refine r_if_eq hC 33 dX4_kindOf_5 (by decide) (fun c2 => ?_) (fun c2 => ?_)
  · refine r_iconst (v := (-1)) hC dX4_kindOf_33 (by decide) ?_
    exact r_iretP hC hret rfl dX4_kindOf_34
  · refine r_iload_n hC dX4_kindOf_8 rfl 2 rfl ?_
    refine r_if_lt hC 33 dX4_kindOf_9 (by decide) (fun c3 => ?_) (fun c3 => ?_)
    · refine r_iconst (v := (-1)) hC dX4_kindOf_33 (by decide) ?_
      exact r_iretP hC hret rfl dX4_kindOf_34
    · refine r_iload_n hC dX4_kindOf_12 rfl 2 rfl ?_
      refine r_aload_n hC dX4_kindOf_13 rfl 0 rfl ?_
      refine r_getR hC clX4 20 2 22 rfl rfl rfl (hC.n rfl) rfl lf_X4_16 dX4_kindOf_14 ?_
      refine r_iload_n hC dX4_kindOf_17 rfl 1 rfl ?_
      refine r_gd (fun g4 => ?_)
      refine r_iald hC 22 8 rfl rfl g4 dX4_kindOf_18 ?_
      refine r_nmI (fun v5 => ?_)
      refine r_icmp_ge hC 33 dX4_kindOf_19 (by decide) (fun c6 => ?_) (fun c6 => ?_)
      · refine r_iconst (v := (-1)) hC dX4_kindOf_33 (by decide) ?_
        exact r_iretP hC hret rfl dX4_kindOf_34
      · refine r_aload_n hC dX4_kindOf_22 rfl 0 rfl ?_
        refine r_getR hC clX4 20 1 21 rfl rfl rfl (hC.n rfl) rfl lf_X4_13 dX4_kindOf_23 ?_
        refine r_iload_n hC dX4_kindOf_26 rfl 1 rfl ?_
        refine r_gd (fun g7 => ?_)
        have e8 := aaK g7
        refine r_aald hC 21 8 (23 + Int32.toNatClampNeg a2) rfl rfl g7 e8.1 dX4_kindOf_27 ?_
        refine r_iload_n hC dX4_kindOf_28 rfl 2 rfl ?_
        refine r_gd (fun g9 => ?_)
        refine r_iald hC (23 + Int32.toNatClampNeg a2) 200 e8.2.1 e8.2.2 g9 dX4_kindOf_29 ?_
        refine r_nmI (fun v10 => ?_)
        refine r_goto hC 34 dX4_kindOf_30 (by decide) ?_
        exact r_iretP hC hret rfl dX4_kindOf_34
set_option maxHeartbeats 4000000 in
set_option maxRecDepth 100000 in
theorem c_X4_kindAt {l : Launch} {w : Wd} (hW : HWd w shX rX 66) (σ : St) (a2 : Int32)  : ∀ res, f_X4_kindAt σ a2 = some res → MtI l yX4_kindAt cX4_kindAt 3 .int 7 159 w [.ref (wA w 20), .int a2] σ (res, σ) := by
  refine mt_P (by decide) rfl hW (fun X hl0 hC hret => ?_)
  show RF X w (Aw w (xs_ X).heap.size) 3 (fun r => QI X w (r, σ)) (f_X4_kindAt σ a2) 0 [(0, .ref (wA w 20)), (1, .int a2)] [] σ
  unfold f_X4_kindAt
  refine r_aload_n hC dX4_kindAt_0 rfl 0 rfl ?_
  refine r_getR hC clX4 20 0 15 rfl rfl rfl (hC.n rfl) rfl lf_X4_20 dX4_kindAt_1 ?_
  refine r_iload_n hC dX4_kindAt_4 rfl 1 rfl ?_
  refine r_callVP hC (b := 15) (ci := 8) (st := []) [.int a2] rfl (hC.n rfl) rfl rfl (c_X8_at hC.w σ a2) yk_X8_at lm_X4_43 rfl ⟨rfl, rfl⟩ rfl dX4_kindAt_5 (fun v1 => ?_)
  refine r_istore_n (lv' := [(2, .int v1), (0, .ref (wA w 20)), (1, .int a2)]) hC dX4_kindAt_8 rfl (by decide) rfl ?_
  refine r_iload_n hC dX4_kindAt_9 rfl 0 rfl ?_
  refine r_callSP hC (st := []) [.int v1] (c_X8_isLetter hC.w σ v1) yk_X8_isLetter lm_X4_53 rfl ⟨rfl, rfl⟩ rfl dX4_kindAt_10 (fun v2 => ?_)
  refine r_if_eq hC 26 dX4_kindAt_13 (by decide) (fun c3 => ?_) (fun c3 => ?_)
  · refine r_iconst (v := (-1)) hC dX4_kindAt_26 (by decide) ?_
    exact r_iretP hC hret rfl dX4_kindAt_27
  · refine r_ldcS (i := 2) hC (fun h9 => h9.2.1.2.2) dX4_kindAt_16 ?_
    refine r_iload_n hC dX4_kindAt_18 rfl 0 rfl ?_
    refine r_i2c hC dX4_kindAt_19 ?_
    refine r_callTP hC (st := []) 2 (by decide) [.int (UInt32.toInt32 (Int32.toUInt32 v1 % 65536))] rfl (c_J0_indexOf_0f7a4 hC.w σ 2 (UInt32.toInt32 (Int32.toUInt32 v1 % 65536)) (by decide)) yk_J0_indexOf_0f7a4 lm_X4_60 rfl ⟨rfl, rfl⟩ rfl dX4_kindAt_20 (fun v4 => ?_)
    refine r_goto hC 27 dX4_kindAt_23 (by decide) ?_
    exact r_iretP hC hret rfl dX4_kindAt_27
set_option maxHeartbeats 4000000 in
set_option maxRecDepth 100000 in
theorem w_X4_append_l25 {X : Mc} {w : Wd} (hC : Cok X w (Aw w (xs_ X).heap.size) yX4_append.cls cX4_append 6 0 0 shX rX 66) (hret : (xmeth X).sig.returnType = none) (a2 : Int32) (a3 : Int32) (v6 : Int32) (k7 : Nat) (σ : St)  (hk7 : shX k7 = (1, 200)) (bk7 : Nat.blt k7 66 = true) (K11 : St → Option St) (hK11 : ∀ (σ10 : St), RF X w (Aw w (xs_ X).heap.size) 6 (QV X w) (K11 σ10) 52 [(0, .ref (wA w 20)), (2, .int a3), (4, .int v6)] [] σ10) : ∀ (n : Nat) (x8 : Int32) (σ9 : St), RF X w (Aw w (xs_ X).heap.size) 6 (QV X w) (f_X4_append_l25 a2 a3 v6 k7 K11 n x8 σ9) 25 [(0, .ref (wA w 20)), (1, .int a2), (2, .int a3), (3, .ref (wA w k7)), (4, .int v6), (5, .int x8)] [] σ9 := by
  intro n
  induction n with
  | zero => intro x8 σ9; rw [f_X4_append_l25]; exact r_none
  | succ n ih =>
    intro x8 σ9
    rw [f_X4_append_l25]
    refine r_iload hC dX4_append_25 5 rfl ?_
    refine r_iload hC dX4_append_27 4 rfl ?_
    refine r_iload_n hC dX4_append_29 rfl 2 rfl ?_
    refine r_iadd hC dX4_append_30 ?_
    refine r_icmp_ge hC 52 dX4_append_31 (by decide) (fun c12 => ?_) (fun c12 => ?_)
    · exact r_lv [0, 2, 4] rfl (hK11 σ9)
    · refine r_iload hC dX4_append_34 5 rfl ?_
      refine r_aload_n hC dX4_append_36 rfl 3 rfl ?_
      refine r_alen1 (v := 200) hC k7 200 hk7 bk7 (by decide) dX4_append_37 ?_
      refine r_icmp_ge hC 52 dX4_append_38 (by decide) (fun c13 => ?_) (fun c13 => ?_)
      · exact r_lv [0, 2, 4] rfl (hK11 σ9)
      · refine r_aload_n hC dX4_append_41 rfl 3 rfl ?_
        refine r_iload hC dX4_append_42 5 rfl ?_
        refine r_iload_n hC dX4_append_44 rfl 1 rfl ?_
        refine r_gd (fun g14 => ?_)
        refine r_iast hC k7 200 hk7 bk7 g14 dX4_append_45 ?_
        refine r_nmS (fun σ15 => ?_)
        refine r_iinc (v := x8 + 1) (lv' := [(5, .int (x8 + 1)), (0, .ref (wA w 20)), (1, .int a2), (2, .int a3), (3, .ref (wA w k7)), (4, .int v6)]) hC dX4_append_46 5 rfl rfl (by decide) rfl ?_
        refine r_goto hC 25 dX4_append_49 (by decide) ?_
        exact r_lv [1, 2, 3, 4, 5, 0] rfl (ih (x8 + 1) σ15)
set_option maxHeartbeats 4000000 in
set_option maxRecDepth 100000 in
theorem c_X4_append {l : Launch} {w : Wd} (hW : HWd w shX rX 66) (σ : St) (a2 : Int32) (a3 : Int32)  : ∀ res, f_X4_append σ a2 a3 = some res → MtV l yX4_append cX4_append 6 0 0 w [.ref (wA w 20), .int a2, .int a3] σ res := by
  refine mt_V (by decide) rfl hW (fun X hl0 hC hret => ?_)
  show RF X w (Aw w (xs_ X).heap.size) 6 (QV X w) (f_X4_append σ a2 a3) 0 [(0, .ref (wA w 20)), (1, .int a2), (2, .int a3)] [] σ
  unfold f_X4_append
  refine r_aload_n hC dX4_append_0 rfl 0 rfl ?_
  refine r_getR hC clX4 20 1 21 rfl rfl rfl (hC.n rfl) rfl lf_X4_13 dX4_append_1 ?_
  refine r_aload_n hC dX4_append_4 rfl 0 rfl ?_
  refine r_getI hC clX4 20 3 rfl rfl (hC.n rfl) rfl lf_X4_24 dX4_append_5 ?_
  refine r_nmI (fun v1 => ?_)
  refine r_gd (fun g2 => ?_)
  have e3 := aaK g2
  refine r_aald hC 21 8 (23 + Int32.toNatClampNeg v1) rfl rfl g2 e3.1 dX4_append_8 ?_
  refine r_astore_n (lv' := [(3, .ref (wA w (23 + Int32.toNatClampNeg v1))), (0, .ref (wA w 20)), (1, .int a2), (2, .int a3)]) hC dX4_append_9 rfl (by decide) rfl ?_
  refine r_aload_n hC dX4_append_10 rfl 1 rfl ?_
  refine r_getR hC clX4 20 2 22 rfl rfl rfl (hC.n rfl) rfl lf_X4_16 dX4_append_11 ?_
  refine r_aload_n hC dX4_append_14 rfl 1 rfl ?_
  refine r_getI hC clX4 20 3 rfl rfl (hC.n rfl) rfl lf_X4_24 dX4_append_15 ?_
  refine r_nmI (fun v4 => ?_)
  refine r_gd (fun g5 => ?_)
  refine r_iald hC 22 8 rfl rfl g5 dX4_append_18 ?_
  refine r_nmI (fun v6 => ?_)
  refine r_istore (lv' := [(4, .int v6), (3, .ref (wA w (23 + Int32.toNatClampNeg v1))), (0, .ref (wA w 20)), (1, .int a2), (2, .int a3)]) hC dX4_append_19 (by decide) rfl ?_
  refine r_iload hC dX4_append_21 0 rfl ?_
  refine r_istore (lv' := [(5, .int v6), (4, .int v6), (3, .ref (wA w (23 + Int32.toNatClampNeg v1))), (0, .ref (wA w 20)), (1, .int a2), (2, .int a3)]) hC dX4_append_23 (by decide) rfl ?_
  refine r_lv [3, 4, 5, 2, 1, 0] rfl ?_
  refine w_X4_append_l25 hC hret a2 a3 v6 (23 + Int32.toNatClampNeg v1) σ e3.2.1 e3.2.2 _ ?_ FU v6 σ
  · intro σ10
    refine r_aload_n hC dX4_append_52 rfl 0 rfl ?_
    refine r_getR hC clX4 20 2 22 rfl rfl rfl (hC.n rfl) rfl lf_X4_16 dX4_append_53 ?_
    refine r_aload_n hC dX4_append_56 rfl 0 rfl ?_
    refine r_getI hC clX4 20 3 rfl rfl (hC.n rfl) rfl lf_X4_24 dX4_append_57 ?_
    refine r_nmI (fun v16 => ?_)
    refine r_iload hC dX4_append_60 2 rfl ?_
    refine r_iload_n hC dX4_append_62 rfl 1 rfl ?_
    refine r_iadd hC dX4_append_63 ?_
    refine r_gd (fun g17 => ?_)
    refine r_iast hC 22 8 rfl rfl g17 dX4_append_64 ?_
    refine r_nmS (fun σ18 => ?_)
    exact r_vret hC hret dX4_append_65
set_option maxHeartbeats 4000000 in
set_option maxRecDepth 100000 in
theorem w_X4_read_l23 {X : Mc} {w : Wd} (hC : Cok X w (Aw w (xs_ X).heap.size) yX4_read.cls cX4_read 7 8 181 shX rX 66) (hret : (xmeth X).sig.returnType = some .int) (σ5 : St)   (K11 : Int32 → St → Option (Int32 × St)) (K14 : Int32 → St → Option (Int32 × St)) (hK11 : ∀ (x9 : Int32) (σ10 : St), RF X w (Aw w (xs_ X).heap.size) 7 (QI X w) (K11 x9 σ10) 178 [(0, .ref (wA w 20)), (1, .int x9)] [] σ10) (hK14 : ∀ (x12 : Int32) (σ13 : St), RF X w (Aw w (xs_ X).heap.size) 7 (QI X w) (K14 x12 σ13) 121 [(3, .int x12)] [] σ13) : ∀ (n : Nat) (x6 : Int32) (x7 : Int32) (σ8 : St), RF X w (Aw w (xs_ X).heap.size) 7 (QI X w) (f_X4_read_l23 K11 K14 n x6 x7 σ8) 23 [(0, .ref (wA w 20)), (1, .int x6), (2, .int x7)] [] σ8 := by
  intro n
  induction n with
  | zero => intro x6 x7 σ8; rw [f_X4_read_l23]; exact r_none
  | succ n ih =>
    intro x6 x7 σ8
    rw [f_X4_read_l23]
    refine r_iload_n hC dX4_read_23 rfl 2 rfl ?_
    refine r_bipush (v := 12) hC dX4_read_24 (by decide) ?_
    refine r_icmp_ge hC 178 dX4_read_26 (by decide) (fun c15 => ?_) (fun c15 => ?_)
    · exact r_lv [0, 1] rfl (hK11 x6 σ8)
    · refine r_iload_n hC dX4_read_29 rfl 2 rfl ?_
      refine r_jn (T := fun (j16 : Option (Int32 × St)) => RF X w (Aw w (xs_ X).heap.size) 7 (QI X w) j16 44 [(0, .ref (wA w 20)), (1, .int x6), (2, .int x7)] [] σ8) ?_ (fun j16 hj16 => ?_)
      · refine r_aload_n hC dX4_read_44 rfl 0 rfl ?_
        refine r_iload_n hC dX4_read_45 rfl 1 rfl ?_
        refine r_callVP hC (b := 20) (ci := 4) (st := []) [.int x6] rfl (hC.n rfl) rfl rfl (c_X4_kindAt hC.w σ8 x6) yk_X4_kindAt lm_X4_39 rfl ⟨rfl, rfl⟩ rfl dX4_read_46 (fun v17 => ?_)
        refine r_iconst (v := (-1)) hC dX4_read_49 (by decide) ?_
        refine r_icmp_ne hC 55 dX4_read_50 (by decide) (fun c18 => ?_) (fun c18 => ?_)
        · refine r_iload_n hC dX4_read_55 rfl 1 rfl ?_
          refine r_iconst (v := 1) hC dX4_read_56 (by decide) ?_
          refine r_iadd hC dX4_read_57 ?_
          refine r_nmI (fun v19 => ?_)
          refine r_istore_n (lv' := [(3, .int v19), (0, .ref (wA w 20)), (1, .int x6), (2, .int x7)]) hC dX4_read_58 rfl (by decide) rfl ?_
          refine r_aload_n hC dX4_read_59 rfl 1 rfl ?_
          refine r_getR hC clX4 20 0 15 rfl rfl rfl (hC.n rfl) rfl lf_X4_20 dX4_read_60 ?_
          refine r_iload_n hC dX4_read_63 rfl 0 rfl ?_
          refine r_callVP hC (b := 15) (ci := 8) (st := []) [.int v19] rfl (hC.n rfl) rfl rfl (c_X8_at hC.w σ8 v19) yk_X8_at lm_X4_43 rfl ⟨rfl, rfl⟩ rfl dX4_read_64 (fun v20 => ?_)
          refine r_callSP hC (st := []) [.int v20] (c_X8_digitOf hC.w σ8 v20) yk_X8_digitOf lm_X4_46 rfl ⟨rfl, rfl⟩ rfl dX4_read_67 (fun v21 => ?_)
          refine r_istore (lv' := [(4, .int v21), (3, .int v19), (0, .ref (wA w 20)), (1, .int x6), (2, .int x7)]) hC dX4_read_70 (by decide) rfl ?_
          refine r_aload_n hC dX4_read_72 rfl 2 rfl ?_
          refine r_getR hC clX4 20 0 15 rfl rfl rfl (hC.n rfl) rfl lf_X4_20 dX4_read_73 ?_
          refine r_iload_n hC dX4_read_76 rfl 1 rfl ?_
          refine r_iconst (v := 1) hC dX4_read_77 (by decide) ?_
          refine r_iadd hC dX4_read_78 ?_
          refine r_callVP hC (b := 15) (ci := 8) (st := []) [.int (v19 + 1)] rfl (hC.n rfl) rfl rfl (c_X8_at hC.w σ8 (v19 + 1)) yk_X8_at lm_X4_43 rfl ⟨rfl, rfl⟩ rfl dX4_read_79 (fun v22 => ?_)
          refine r_callSP hC (st := []) [.int v22] (c_X8_digitOf hC.w σ8 v22) yk_X8_digitOf lm_X4_46 rfl ⟨rfl, rfl⟩ rfl dX4_read_82 (fun v23 => ?_)
          refine r_istore (lv' := [(5, .int v23), (4, .int v21), (3, .int v19), (0, .ref (wA w 20)), (1, .int x6), (2, .int x7)]) hC dX4_read_85 (by decide) rfl ?_
          refine r_iload hC dX4_read_87 1 rfl ?_
          refine r_iconst (v := (-1)) hC dX4_read_89 (by decide) ?_
          refine r_icmp_ne hC 95 dX4_read_90 (by decide) (fun c24 => ?_) (fun c24 => ?_)
          · refine r_iload hC dX4_read_95 0 rfl ?_
            refine r_iconst (v := (-1)) hC dX4_read_97 (by decide) ?_
            refine r_jn (T := fun (j26 : Int32 → Option (Int32 × St)) => ∀ (t25 : Int32), RF X w (Aw w (xs_ X).heap.size) 7 (QI X w) (j26 t25) 114 [(0, .ref (wA w 20)), (1, .int x6), (2, .int x7), (3, .int v19), (5, .int v23)] [.int t25] σ8) ?_ (fun j26 hj26 => ?_)
            · intro t25
              refine r_istore (lv' := [(6, .int t25), (0, .ref (wA w 20)), (1, .int x6), (2, .int x7), (3, .int v19), (5, .int v23)]) hC dX4_read_114 (by decide) rfl ?_
              refine r_iload hC dX4_read_116 0 rfl ?_
              refine r_if_ne hC 125 dX4_read_118 (by decide) (fun c27 => ?_) (fun c27 => ?_)
              · refine r_iload hC dX4_read_125 0 rfl ?_
                refine r_sipush (v := 200) hC dX4_read_127 (by decide) ?_
                refine r_aload_n hC dX4_read_130 rfl 1 rfl ?_
                refine r_getR hC clX4 20 2 22 rfl rfl rfl (hC.n rfl) rfl lf_X4_16 dX4_read_131 ?_
                refine r_aload_n hC dX4_read_134 rfl 1 rfl ?_
                refine r_getI hC clX4 20 3 rfl rfl (hC.n rfl) rfl lf_X4_24 dX4_read_135 ?_
                refine r_nmI (fun v28 => ?_)
                refine r_gd (fun g29 => ?_)
                refine r_iald hC 22 8 rfl rfl g29 dX4_read_138 ?_
                refine r_nmI (fun v30 => ?_)
                refine r_isub hC dX4_read_139 ?_
                refine r_icmp_le hC 145 dX4_read_140 (by decide) (fun c31 => ?_) (fun c31 => ?_)
                · refine r_aload_n hC dX4_read_145 rfl 1 rfl ?_
                  refine r_aload_n hC dX4_read_146 rfl 1 rfl ?_
                  refine r_iload_n hC dX4_read_147 rfl 2 rfl ?_
                  refine r_callVP hC (b := 20) (ci := 4) (st := [.ref (wA w 20)]) [.int x6] rfl (hC.n rfl) rfl rfl (c_X4_kindAt hC.w σ8 x6) yk_X4_kindAt lm_X4_39 rfl ⟨rfl, rfl⟩ rfl dX4_read_148 (fun v32 => ?_)
                  refine r_iload hC dX4_read_151 0 rfl ?_
                  refine r_callVV hC (b := 20) (ci := 4) (st := []) [.int v32, .int t25] rfl (hC.n rfl) rfl rfl (c_X4_append hC.w σ8 v32 t25) yk_X4_append lm_X4_49 rfl ⟨rfl, rfl⟩ rfl dX4_read_153 (fun σ33 => ?_)
                  refine r_iload hC dX4_read_156 5 rfl ?_
                  refine r_iconst (v := (-1)) hC dX4_read_158 (by decide) ?_
                  refine r_jn (T := fun (j35 : Int32 → Option (Int32 × St)) => ∀ (t34 : Int32), RF X w (Aw w (xs_ X).heap.size) 7 (QI X w) (j35 t34) 171 [(0, .ref (wA w 20)), (2, .int x7)] [.int t34] σ33) ?_ (fun j35 hj35 => ?_)
                  · intro t34
                    refine r_istore_n (lv' := [(1, .int t34), (0, .ref (wA w 20)), (2, .int x7)]) hC dX4_read_171 rfl (by decide) rfl ?_
                    refine r_iinc (v := x7 + 1) (lv' := [(2, .int (x7 + 1)), (1, .int t34), (0, .ref (wA w 20))]) hC dX4_read_172 2 rfl rfl (by decide) rfl ?_
                    refine r_goto hC 23 dX4_read_175 (by decide) ?_
                    exact r_lv [2, 1, 0] rfl (ih t34 (x7 + 1) σ33)
                  · refine r_icmp_ne hC 168 dX4_read_159 (by decide) (fun c36 => ?_) (fun c36 => ?_)
                    · refine r_iload_n hC dX4_read_168 rfl 4 rfl ?_
                      refine r_iconst (v := 2) hC dX4_read_169 (by decide) ?_
                      refine r_iadd hC dX4_read_170 ?_
                      exact r_lv [1, 3] rfl (hj35 (v19 + 2))
                    · refine r_iload_n hC dX4_read_162 rfl 4 rfl ?_
                      refine r_iconst (v := 1) hC dX4_read_163 (by decide) ?_
                      refine r_iadd hC dX4_read_164 ?_
                      refine r_goto hC 171 dX4_read_165 (by decide) ?_
                      exact r_lv [1, 3] rfl (hj35 (v19 + 1))
                · refine r_iload_n hC dX4_read_143 rfl 4 rfl ?_
                  exact r_iret hC hret rfl dX4_read_144
              · exact r_lv [4] rfl (hK14 v19 σ8)
            · refine r_icmp_ne hC 106 dX4_read_98 (by decide) (fun c37 => ?_) (fun c37 => ?_)
              · refine r_bipush (v := 10) hC dX4_read_106 (by decide) ?_
                refine r_iload hC dX4_read_108 1 rfl ?_
                refine r_imul hC dX4_read_110 ?_
                refine r_iload hC dX4_read_111 0 rfl ?_
                refine r_iadd hC dX4_read_113 ?_
                exact r_lv [3, 4, 5, 2, 0] rfl (hj26 ((10 * v21) + v23))
              · refine r_iload hC dX4_read_101 1 rfl ?_
                refine r_goto hC 114 dX4_read_103 (by decide) ?_
                exact r_lv [3, 4, 5, 2, 0] rfl (hj26 v21)
          · refine r_iload_n hC dX4_read_93 rfl 2 rfl ?_
            exact r_iret hC hret rfl dX4_read_94
        · refine r_iload_n hC dX4_read_53 rfl 1 rfl ?_
          exact r_iret hC hret rfl dX4_read_54
      · refine r_if_eq hC 44 dX4_read_30 (by decide) (fun c38 => ?_) (fun c38 => ?_)
        · exact r_lv [0, 1, 2] rfl hj16
        · refine r_iload_n hC dX4_read_33 rfl 1 rfl ?_
          refine r_aload_n hC dX4_read_34 rfl 0 rfl ?_
          refine r_getR hC clX4 20 0 15 rfl rfl rfl (hC.n rfl) rfl lf_X4_20 dX4_read_35 ?_
          refine r_getI hC clX8 15 1 rfl rfl (hC.n rfl) rfl lf_X4_36 dX4_read_38 ?_
          refine r_nmI (fun v39 => ?_)
          refine r_icmp_ge hC 178 dX4_read_41 (by decide) (fun c40 => ?_) (fun c40 => ?_)
          · exact r_lv [0, 1] rfl (hK11 x6 σ8)
          · exact r_lv [0, 1, 2] rfl hj16
set_option maxHeartbeats 4000000 in
set_option maxRecDepth 100000 in
theorem c_X4_read {l : Launch} {w : Wd} (hW : HWd w shX rX 66) (σ : St)   : ∀ res, f_X4_read σ = some res → MtI l yX4_read cX4_read 7 .int 8 181 w [.ref (wA w 20)] σ res := by
  refine mt_I (by decide) rfl hW (fun X hl0 hC hret => ?_)
  show RF X w (Aw w (xs_ X).heap.size) 7 (QI X w) (f_X4_read σ) 0 [(0, .ref (wA w 20))] [] σ
  unfold f_X4_read
  refine r_aload_n hC dX4_read_0 rfl 0 rfl ?_
  refine r_callVP hC (b := 20) (ci := 4) (st := []) [] rfl (hC.n rfl) rfl rfl (c_X4_isFull hC.w σ) yk_X4_isFull lm_X4_32 rfl ⟨rfl, rfl⟩ rfl dX4_read_1 (fun v1 => ?_)
  refine r_if_eq hC 9 dX4_read_4 (by decide) (fun c2 => ?_) (fun c2 => ?_)
  · refine r_aload_n hC dX4_read_9 rfl 0 rfl ?_
    refine r_getR hC clX4 20 2 22 rfl rfl rfl (hC.n rfl) rfl lf_X4_16 dX4_read_10 ?_
    refine r_aload_n hC dX4_read_13 rfl 0 rfl ?_
    refine r_getI hC clX4 20 3 rfl rfl (hC.n rfl) rfl lf_X4_24 dX4_read_14 ?_
    refine r_nmI (fun v3 => ?_)
    refine r_iconst (v := 0) hC dX4_read_17 (by decide) ?_
    refine r_gd (fun g4 => ?_)
    refine r_iast hC 22 8 rfl rfl g4 dX4_read_18 ?_
    refine r_nmS (fun σ5 => ?_)
    refine r_iconst (v := 0) hC dX4_read_19 (by decide) ?_
    refine r_istore_n (lv' := [(1, .int 0), (0, .ref (wA w 20))]) hC dX4_read_20 rfl (by decide) rfl ?_
    refine r_iconst (v := 0) hC dX4_read_21 (by decide) ?_
    refine r_istore_n (lv' := [(2, .int 0), (1, .int 0), (0, .ref (wA w 20))]) hC dX4_read_22 rfl (by decide) rfl ?_
    refine r_lv [2, 1, 0] rfl ?_
    refine w_X4_read_l23 hC hret σ5 _ _ ?_ ?_ FU 0 0 σ5
    · intro x9 σ10
      refine r_iload_n hC dX4_read_178 rfl 1 rfl ?_
      refine r_aload_n hC dX4_read_179 rfl 0 rfl ?_
      refine r_getR hC clX4 20 0 15 rfl rfl rfl (hC.n rfl) rfl lf_X4_20 dX4_read_180 ?_
      refine r_getI hC clX8 15 1 rfl rfl (hC.n rfl) rfl lf_X4_36 dX4_read_183 ?_
      refine r_nmI (fun v41 => ?_)
      refine r_icmp_ge hC 191 dX4_read_186 (by decide) (fun c42 => ?_) (fun c42 => ?_)
      · refine r_aload_n hC dX4_read_191 rfl 0 rfl ?_
        refine r_dup hC dX4_read_192 rfl ?_
        refine r_getI hC clX4 20 3 rfl rfl (hC.n rfl) rfl lf_X4_24 dX4_read_193 ?_
        refine r_nmI (fun v43 => ?_)
        refine r_iconst (v := 1) hC dX4_read_196 (by decide) ?_
        refine r_iadd hC dX4_read_197 ?_
        refine r_putI hC clX4 20 3 rfl rfl rfl (hC.n rfl) rfl rfl lf_X4_24 dX4_read_198 ?_
        refine r_nmS (fun σ44 => ?_)
        refine r_iconst (v := (-1)) hC dX4_read_201 (by decide) ?_
        exact r_iret hC hret rfl dX4_read_202
      · refine r_iload_n hC dX4_read_189 rfl 1 rfl ?_
        exact r_iret hC hret rfl dX4_read_190
    · intro x12 σ13
      refine r_iload_n hC dX4_read_121 rfl 0 rfl ?_
      refine r_iconst (v := 1) hC dX4_read_122 (by decide) ?_
      refine r_iadd hC dX4_read_123 ?_
      exact r_iret hC hret rfl dX4_read_124
  · refine r_iconst (v := 0) hC dX4_read_7 (by decide) ?_
    exact r_iret hC hret rfl dX4_read_8
set_option maxHeartbeats 4000000 in
set_option maxRecDepth 100000 in
theorem w_X9_numberToken_l7 {X : Mc} {w : Wd} (hC : Cok X w (Aw w (xs_ X).heap.size) yX9_numberToken.cls cX9_numberToken 3 1 21 shX rX 66) (hret : (xmeth X).sig.returnType = some .int) (σ : St)   (K6 : Int32 → Int32 → Option (Int32 × St)) (hK6 : ∀ (x4 : Int32) (x5 : Int32), RF X w (Aw w (xs_ X).heap.size) 3 (QI X w) (K6 x4 x5) 66 [(0, .ref (wA w 17)), (1, .int x4), (2, .int x5)] [] σ) : ∀ (n : Nat) (x2 : Int32) (x3 : Int32), RF X w (Aw w (xs_ X).heap.size) 3 (QI X w) (f_X9_numberToken_l7 σ K6 n x2 x3) 7 [(0, .ref (wA w 17)), (1, .int x2), (2, .int x3)] [] σ := by
  intro n
  induction n with
  | zero => intro x2 x3; rw [f_X9_numberToken_l7]; exact r_none
  | succ n ih =>
    intro x2 x3
    rw [f_X9_numberToken_l7]
    refine r_iload_n hC dX9_numberToken_7 rfl 1 rfl ?_
    refine r_aload_n hC dX9_numberToken_8 rfl 0 rfl ?_
    refine r_getR hC clX9 17 0 15 rfl rfl rfl (hC.n rfl) rfl lf_X9_15 dX9_numberToken_9 ?_
    refine r_getI hC clX8 15 1 rfl rfl (hC.n rfl) rfl lf_X9_56 dX9_numberToken_12 ?_
    refine r_nmI (fun v7 => ?_)
    refine r_icmp_ge hC 66 dX9_numberToken_15 (by decide) (fun c8 => ?_) (fun c8 => ?_)
    · exact r_lv [0, 1, 2] rfl (hK6 x2 x3)
    · refine r_aload_n hC dX9_numberToken_18 rfl 0 rfl ?_
      refine r_getR hC clX9 17 0 15 rfl rfl rfl (hC.n rfl) rfl lf_X9_15 dX9_numberToken_19 ?_
      refine r_iload_n hC dX9_numberToken_22 rfl 1 rfl ?_
      refine r_callVP hC (b := 15) (ci := 8) (st := []) [.int x2] rfl (hC.n rfl) rfl rfl (c_X8_at hC.w σ x2) yk_X8_at lm_X9_59 rfl ⟨rfl, rfl⟩ rfl dX9_numberToken_23 (fun v9 => ?_)
      refine r_callSP hC (st := []) [.int v9] (c_X8_digitOf hC.w σ v9) yk_X8_digitOf lm_X9_73 rfl ⟨rfl, rfl⟩ rfl dX9_numberToken_26 (fun v10 => ?_)
      refine r_iconst (v := (-1)) hC dX9_numberToken_29 (by decide) ?_
      refine r_icmp_eq hC 66 dX9_numberToken_30 (by decide) (fun c11 => ?_) (fun c11 => ?_)
      · exact r_lv [0, 1, 2] rfl (hK6 x2 x3)
      · refine r_iload_n hC dX9_numberToken_33 rfl 1 rfl ?_
        refine r_aload_n hC dX9_numberToken_34 rfl 0 rfl ?_
        refine r_getI hC clX9 17 5 rfl rfl (hC.n rfl) rfl lf_X9_44 dX9_numberToken_35 ?_
        refine r_nmI (fun v12 => ?_)
        refine r_isub hC dX9_numberToken_38 ?_
        refine r_iconst (v := 4) hC dX9_numberToken_39 (by decide) ?_
        refine r_jn (T := fun (j14 : Int32 → Option (Int32 × St)) => ∀ (x13 : Int32), RF X w (Aw w (xs_ X).heap.size) 3 (QI X w) (j14 x13) 60 [(0, .ref (wA w 17)), (1, .int x2), (2, .int x13)] [] σ) ?_ (fun j14 hj14 => ?_)
        · intro x13
          refine r_iinc (v := x2 + 1) (lv' := [(1, .int (x2 + 1)), (0, .ref (wA w 17)), (2, .int x13)]) hC dX9_numberToken_60 1 rfl rfl (by decide) rfl ?_
          refine r_goto hC 7 dX9_numberToken_63 (by decide) ?_
          exact r_lv [1, 0, 2] rfl (ih (x2 + 1) x13)
        · refine r_icmp_ge hC 60 dX9_numberToken_40 (by decide) (fun c15 => ?_) (fun c15 => ?_)
          · exact r_lv [0, 1, 2] rfl (hj14 x3)
          · refine r_bipush (v := 10) hC dX9_numberToken_43 (by decide) ?_
            refine r_iload_n hC dX9_numberToken_45 rfl 2 rfl ?_
            refine r_imul hC dX9_numberToken_46 ?_
            refine r_aload_n hC dX9_numberToken_47 rfl 0 rfl ?_
            refine r_getR hC clX9 17 0 15 rfl rfl rfl (hC.n rfl) rfl lf_X9_15 dX9_numberToken_48 ?_
            refine r_iload_n hC dX9_numberToken_51 rfl 1 rfl ?_
            refine r_callVP hC (b := 15) (ci := 8) (st := [.int (10 * x3)]) [.int x2] rfl (hC.n rfl) rfl rfl (c_X8_at hC.w σ x2) yk_X8_at lm_X9_59 rfl ⟨rfl, rfl⟩ rfl dX9_numberToken_52 (fun v16 => ?_)
            refine r_callSP hC (st := [.int (10 * x3)]) [.int v16] (c_X8_digitOf hC.w σ v16) yk_X8_digitOf lm_X9_73 rfl ⟨rfl, rfl⟩ rfl dX9_numberToken_55 (fun v17 => ?_)
            refine r_iadd hC dX9_numberToken_58 ?_
            refine r_nmI (fun v18 => ?_)
            refine r_istore_n (lv' := [(2, .int v18), (0, .ref (wA w 17)), (1, .int x2)]) hC dX9_numberToken_59 rfl (by decide) rfl ?_
            exact r_lv [1, 2, 0] rfl (hj14 v18)
set_option maxHeartbeats 4000000 in
set_option maxRecDepth 100000 in
theorem c_X9_numberToken {l : Launch} {w : Wd} (hW : HWd w shX rX 66) (σ : St)   : ∀ res, f_X9_numberToken σ = some res → MtI l yX9_numberToken cX9_numberToken 3 .int 1 21 w [.ref (wA w 17)] σ res := by
  refine mt_I (by decide) rfl hW (fun X hl0 hC hret => ?_)
  show RF X w (Aw w (xs_ X).heap.size) 3 (QI X w) (f_X9_numberToken σ) 0 [(0, .ref (wA w 17))] [] σ
  unfold f_X9_numberToken
  refine r_aload_n hC dX9_numberToken_0 rfl 0 rfl ?_
  refine r_getI hC clX9 17 5 rfl rfl (hC.n rfl) rfl lf_X9_44 dX9_numberToken_1 ?_
  refine r_nmI (fun v1 => ?_)
  refine r_istore_n (lv' := [(1, .int v1), (0, .ref (wA w 17))]) hC dX9_numberToken_4 rfl (by decide) rfl ?_
  refine r_iconst (v := 0) hC dX9_numberToken_5 (by decide) ?_
  refine r_istore_n (lv' := [(2, .int 0), (1, .int v1), (0, .ref (wA w 17))]) hC dX9_numberToken_6 rfl (by decide) rfl ?_
  refine r_lv [2, 1, 0] rfl ?_
  refine w_X9_numberToken_l7 hC hret σ _ ?_ FU v1 0
  · intro x4 x5
    refine r_aload_n hC dX9_numberToken_66 rfl 0 rfl ?_
    refine r_iload_n hC dX9_numberToken_67 rfl 1 rfl ?_
    refine r_putI hC clX9 17 6 rfl rfl rfl (hC.n rfl) rfl rfl lf_X9_26 dX9_numberToken_68 ?_
    refine r_nmS (fun σ19 => ?_)
    refine r_iload_n hC dX9_numberToken_71 rfl 1 rfl ?_
    refine r_aload_n hC dX9_numberToken_72 rfl 0 rfl ?_
    refine r_getI hC clX9 17 5 rfl rfl (hC.n rfl) rfl lf_X9_44 dX9_numberToken_73 ?_
    refine r_nmI (fun v20 => ?_)
    refine r_isub hC dX9_numberToken_76 ?_
    refine r_iconst (v := 4) hC dX9_numberToken_77 (by decide) ?_
    refine r_icmp_le hC 86 dX9_numberToken_78 (by decide) (fun c21 => ?_) (fun c21 => ?_)
    · refine r_iload_n hC dX9_numberToken_86 rfl 2 rfl ?_
      exact r_iret hC hret rfl dX9_numberToken_87
    · refine r_bipush (v := (-2)) hC dX9_numberToken_81 (by decide) ?_
      refine r_goto hC 87 dX9_numberToken_83 (by decide) ?_
      exact r_iret hC hret rfl dX9_numberToken_87
set_option maxHeartbeats 4000000 in
set_option maxRecDepth 100000 in
theorem w_X9_wordToken_l5 {X : Mc} {w : Wd} (hC : Cok X w (Aw w (xs_ X).heap.size) yX9_wordToken.cls cX9_wordToken 7 5 141 shX rX 66) (hret : (xmeth X).sig.returnType = some .int) (σ : St)   (K4 : Int32 → Option (Int32 × St)) (hK4 : ∀ (x3 : Int32), RF X w (Aw w (xs_ X).heap.size) 7 (QI X w) (K4 x3) 36 [(0, .ref (wA w 17)), (1, .int x3)] [] σ) : ∀ (n : Nat) (x2 : Int32), RF X w (Aw w (xs_ X).heap.size) 7 (QI X w) (f_X9_wordToken_l5 σ K4 n x2) 5 [(0, .ref (wA w 17)), (1, .int x2)] [] σ := by
  intro n
  induction n with
  | zero => intro x2; rw [f_X9_wordToken_l5]; exact r_none
  | succ n ih =>
    intro x2
    rw [f_X9_wordToken_l5]
    refine r_iload_n hC dX9_wordToken_5 rfl 1 rfl ?_
    refine r_aload_n hC dX9_wordToken_6 rfl 0 rfl ?_
    refine r_getR hC clX9 17 0 15 rfl rfl rfl (hC.n rfl) rfl lf_X9_15 dX9_wordToken_7 ?_
    refine r_getI hC clX8 15 1 rfl rfl (hC.n rfl) rfl lf_X9_56 dX9_wordToken_10 ?_
    refine r_nmI (fun v5 => ?_)
    refine r_icmp_ge hC 36 dX9_wordToken_13 (by decide) (fun c6 => ?_) (fun c6 => ?_)
    · exact r_lv [0, 1] rfl (hK4 x2)
    · refine r_aload_n hC dX9_wordToken_16 rfl 0 rfl ?_
      refine r_getR hC clX9 17 0 15 rfl rfl rfl (hC.n rfl) rfl lf_X9_15 dX9_wordToken_17 ?_
      refine r_iload_n hC dX9_wordToken_20 rfl 1 rfl ?_
      refine r_callVP hC (b := 15) (ci := 8) (st := []) [.int x2] rfl (hC.n rfl) rfl rfl (c_X8_at hC.w σ x2) yk_X8_at lm_X9_59 rfl ⟨rfl, rfl⟩ rfl dX9_wordToken_21 (fun v7 => ?_)
      refine r_callSP hC (st := []) [.int v7] (c_X8_isLetter hC.w σ v7) yk_X8_isLetter lm_X9_66 rfl ⟨rfl, rfl⟩ rfl dX9_wordToken_24 (fun v8 => ?_)
      refine r_if_eq hC 36 dX9_wordToken_27 (by decide) (fun c9 => ?_) (fun c9 => ?_)
      · exact r_lv [0, 1] rfl (hK4 x2)
      · refine r_iinc (v := x2 + 1) (lv' := [(1, .int (x2 + 1)), (0, .ref (wA w 17))]) hC dX9_wordToken_30 1 rfl rfl (by decide) rfl ?_
        refine r_goto hC 5 dX9_wordToken_33 (by decide) ?_
        exact r_lv [1, 0] rfl (ih (x2 + 1))
set_option maxHeartbeats 4000000 in
set_option maxRecDepth 100000 in
theorem w_X9_wordToken_l54 {X : Mc} {w : Wd} (hC : Cok X w (Aw w (xs_ X).heap.size) yX9_wordToken.cls cX9_wordToken 7 5 141 shX rX 66) (hret : (xmeth X).sig.returnType = some .int) (x3 : Int32) (σ10 : St)   (K17 : Int32 → Option (Int32 × St)) (hK17 : ∀ (x16 : Int32), RF X w (Aw w (xs_ X).heap.size) 7 (QI X w) (K17 x16) 126 [(2, .int x16)] [] σ10) : ∀ (n : Nat) (x12 : Int32) (x13 : Int32) (x14 : Int32) (x15 : Int32), RF X w (Aw w (xs_ X).heap.size) 7 (QI X w) (f_X9_wordToken_l54 x3 σ10 K17 n x12 x13 x14 x15) 54 [(0, .ref (wA w 17)), (1, .int x3), (2, .int x12), (3, .int x13), (4, .int x14), (5, .int x15)] [] σ10 := by
  intro n
  induction n with
  | zero => intro x12 x13 x14 x15; rw [f_X9_wordToken_l54]; exact r_none
  | succ n ih =>
    intro x12 x13 x14 x15
    rw [f_X9_wordToken_l54]
    refine r_iload hC dX9_wordToken_54 5 rfl ?_
    refine r_ldcS (i := 0) hC (fun h9 => h9.2.1.1) dX9_wordToken_56 ?_
    refine r_callTP hC (st := [.int x15]) 0 (by decide) [] rfl (c_J0_length_8abf5 hC.w σ10 0 (by decide)) yk_J0_length_8abf5 lm_X9_88 rfl ⟨rfl, rfl⟩ rfl dX9_wordToken_58 (fun v18 => ?_)
    refine r_icmp_ge hC 149 dX9_wordToken_61 (by decide) (fun c19 => ?_) (fun c19 => ?_)
    · refine r_bipush (v := (-2)) hC dX9_wordToken_149 (by decide) ?_
      exact r_iret hC hret rfl dX9_wordToken_151
    · refine r_ldcS (i := 0) hC (fun h9 => h9.2.1.1) dX9_wordToken_64 ?_
      refine r_iload hC dX9_wordToken_66 5 rfl ?_
      refine r_callTP hC (st := []) 0 (by decide) [.int x15] rfl (c_J0_charAt_5068e hC.w σ10 0 x15 (by decide)) yk_J0_charAt_5068e lm_X9_91 rfl ⟨rfl, rfl⟩ rfl dX9_wordToken_68 (fun v20 => ?_)
      refine r_istore (lv' := [(6, .int v20), (0, .ref (wA w 17)), (1, .int x3), (2, .int x12), (3, .int x13), (4, .int x14), (5, .int x15)]) hC dX9_wordToken_71 (by decide) rfl ?_
      refine r_iload hC dX9_wordToken_73 0 rfl ?_
      refine r_bipush (v := 32) hC dX9_wordToken_75 (by decide) ?_
      refine r_jn (T := fun (j24 : Int32 → Int32 → Int32 → Option (Int32 × St)) => ∀ (x21 : Int32) (x22 : Int32) (x23 : Int32), RF X w (Aw w (xs_ X).heap.size) 7 (QI X w) (j24 x21 x22 x23) 143 [(0, .ref (wA w 17)), (1, .int x3), (2, .int x21), (3, .int x22), (4, .int x23), (5, .int x15)] [] σ10) ?_ (fun j24 hj24 => ?_)
      · intro x21 x22 x23
        refine r_iinc (v := x15 + 1) (lv' := [(5, .int (x15 + 1)), (0, .ref (wA w 17)), (1, .int x3), (2, .int x21), (3, .int x22), (4, .int x23)]) hC dX9_wordToken_143 5 rfl rfl (by decide) rfl ?_
        refine r_goto hC 54 dX9_wordToken_146 (by decide) ?_
        exact r_lv [1, 2, 3, 4, 5, 0] rfl (ih x21 x22 x23 (x15 + 1))
      · refine r_icmp_eq hC 116 dX9_wordToken_77 (by decide) (fun c25 => ?_) (fun c25 => ?_)
        · refine r_iload hC dX9_wordToken_116 5 rfl ?_
          refine r_jn (T := fun (j26 : Option (Int32 × St)) => RF X w (Aw w (xs_ X).heap.size) 7 (QI X w) j26 132 [(0, .ref (wA w 17)), (1, .int x3), (2, .int x12), (5, .int x15)] [] σ10) ?_ (fun j26 hj26 => ?_)
          · refine r_iinc (v := x12 + 1) (lv' := [(2, .int (x12 + 1)), (0, .ref (wA w 17)), (1, .int x3), (5, .int x15)]) hC dX9_wordToken_132 2 rfl rfl (by decide) rfl ?_
            refine r_aload_n hC dX9_wordToken_135 rfl 1 rfl ?_
            refine r_getI hC clX9 17 5 rfl rfl (hC.n rfl) rfl lf_X9_44 dX9_wordToken_136 ?_
            refine r_nmI (fun v27 => ?_)
            refine r_istore_n (lv' := [(3, .int v27), (2, .int (x12 + 1)), (0, .ref (wA w 17)), (1, .int x3), (5, .int x15)]) hC dX9_wordToken_139 rfl (by decide) rfl ?_
            refine r_iconst (v := 1) hC dX9_wordToken_140 (by decide) ?_
            refine r_istore (lv' := [(4, .int 1), (3, .int v27), (2, .int (x12 + 1)), (0, .ref (wA w 17)), (1, .int x3), (5, .int x15)]) hC dX9_wordToken_141 (by decide) rfl ?_
            exact r_lv [3, 4, 2, 1, 0, 5] rfl (hj24 (x12 + 1) v27 1)
          · refine r_if_eq hC 132 dX9_wordToken_118 (by decide) (fun c28 => ?_) (fun c28 => ?_)
            · exact r_lv [1, 2, 3, 6] rfl hj26
            · refine r_iload_n hC dX9_wordToken_121 rfl 4 rfl ?_
              refine r_iload_n hC dX9_wordToken_122 rfl 2 rfl ?_
              refine r_icmp_ne hC 132 dX9_wordToken_123 (by decide) (fun c29 => ?_) (fun c29 => ?_)
              · exact r_lv [1, 2, 3, 6] rfl hj26
              · exact r_lv [3] rfl (hK17 x12)
        · refine r_iload hC dX9_wordToken_80 5 rfl ?_
          refine r_jn (T := fun (j31 : Int32 → Option (Int32 × St)) => ∀ (t30 : Int32), RF X w (Aw w (xs_ X).heap.size) 7 (QI X w) (j31 t30) 108 [(0, .ref (wA w 17)), (1, .int x3), (2, .int x12), (3, .int x13), (5, .int x15)] [.int t30] σ10) ?_ (fun j31 hj31 => ?_)
          · intro t30
            refine r_istore (lv' := [(4, .int t30), (0, .ref (wA w 17)), (1, .int x3), (2, .int x12), (3, .int x13), (5, .int x15)]) hC dX9_wordToken_108 (by decide) rfl ?_
            refine r_iinc (v := x13 + 1) (lv' := [(3, .int (x13 + 1)), (4, .int t30), (0, .ref (wA w 17)), (1, .int x3), (2, .int x12), (5, .int x15)]) hC dX9_wordToken_110 4 rfl rfl (by decide) rfl ?_
            refine r_goto hC 143 dX9_wordToken_113 (by decide) ?_
            exact r_lv [2, 3, 4, 0, 1, 5] rfl (hj24 x12 (x13 + 1) t30)
          · refine r_jn (T := fun (j32 : Option (Int32 × St)) => RF X w (Aw w (xs_ X).heap.size) 7 (QI X w) j32 107 [(0, .ref (wA w 17)), (1, .int x3), (2, .int x12), (3, .int x13), (5, .int x15)] [] σ10) ?_ (fun j32 hj32 => ?_)
            · refine r_iconst (v := 0) hC dX9_wordToken_107 (by decide) ?_
              exact r_lv [0, 1, 2, 3, 4] rfl (hj31 0)
            · refine r_if_eq hC 107 dX9_wordToken_82 (by decide) (fun c33 => ?_) (fun c33 => ?_)
              · exact r_lv [1, 2, 3, 4, 6] rfl hj32
              · refine r_iload_n hC dX9_wordToken_85 rfl 4 rfl ?_
                refine r_iload_n hC dX9_wordToken_86 rfl 2 rfl ?_
                refine r_icmp_ge hC 107 dX9_wordToken_87 (by decide) (fun c34 => ?_) (fun c34 => ?_)
                · exact r_lv [1, 2, 3, 4, 6] rfl hj32
                · refine r_aload_n hC dX9_wordToken_90 rfl 1 rfl ?_
                  refine r_getR hC clX9 17 0 15 rfl rfl rfl (hC.n rfl) rfl lf_X9_15 dX9_wordToken_91 ?_
                  refine r_iload_n hC dX9_wordToken_94 rfl 4 rfl ?_
                  refine r_callVP hC (b := 15) (ci := 8) (st := []) [.int x13] rfl (hC.n rfl) rfl rfl (c_X8_at hC.w σ10 x13) yk_X8_at lm_X9_59 rfl ⟨rfl, rfl⟩ rfl dX9_wordToken_95 (fun v35 => ?_)
                  refine r_iload hC dX9_wordToken_98 0 rfl ?_
                  refine r_icmp_ne hC 107 dX9_wordToken_100 (by decide) (fun c36 => ?_) (fun c36 => ?_)
                  · exact r_lv [1, 2, 3, 4, 6] rfl hj32
                  · refine r_iconst (v := 1) hC dX9_wordToken_103 (by decide) ?_
                    refine r_goto hC 108 dX9_wordToken_104 (by decide) ?_
                    exact r_lv [1, 2, 3, 4, 6] rfl (hj31 1)
set_option maxHeartbeats 4000000 in
set_option maxRecDepth 100000 in
theorem c_X9_wordToken {l : Launch} {w : Wd} (hW : HWd w shX rX 66) (σ : St)   : ∀ res, f_X9_wordToken σ = some res → MtI l yX9_wordToken cX9_wordToken 7 .int 5 141 w [.ref (wA w 17)] σ res := by
  refine mt_I (by decide) rfl hW (fun X hl0 hC hret => ?_)
  show RF X w (Aw w (xs_ X).heap.size) 7 (QI X w) (f_X9_wordToken σ) 0 [(0, .ref (wA w 17))] [] σ
  unfold f_X9_wordToken
  refine r_aload_n hC dX9_wordToken_0 rfl 0 rfl ?_
  refine r_getI hC clX9 17 5 rfl rfl (hC.n rfl) rfl lf_X9_44 dX9_wordToken_1 ?_
  refine r_nmI (fun v1 => ?_)
  refine r_istore_n (lv' := [(1, .int v1), (0, .ref (wA w 17))]) hC dX9_wordToken_4 rfl (by decide) rfl ?_
  refine r_lv [1, 0] rfl ?_
  refine w_X9_wordToken_l5 hC hret σ _ ?_ FU v1
  · intro x3
    refine r_aload_n hC dX9_wordToken_36 rfl 0 rfl ?_
    refine r_iload_n hC dX9_wordToken_37 rfl 1 rfl ?_
    refine r_putI hC clX9 17 6 rfl rfl rfl (hC.n rfl) rfl rfl lf_X9_26 dX9_wordToken_38 ?_
    refine r_nmS (fun σ10 => ?_)
    refine r_iconst (v := 0) hC dX9_wordToken_41 (by decide) ?_
    refine r_istore_n (lv' := [(2, .int 0), (0, .ref (wA w 17)), (1, .int x3)]) hC dX9_wordToken_42 rfl (by decide) rfl ?_
    refine r_aload_n hC dX9_wordToken_43 rfl 1 rfl ?_
    refine r_getI hC clX9 17 5 rfl rfl (hC.n rfl) rfl lf_X9_44 dX9_wordToken_44 ?_
    refine r_nmI (fun v11 => ?_)
    refine r_istore_n (lv' := [(3, .int v11), (2, .int 0), (0, .ref (wA w 17)), (1, .int x3)]) hC dX9_wordToken_47 rfl (by decide) rfl ?_
    refine r_iconst (v := 1) hC dX9_wordToken_48 (by decide) ?_
    refine r_istore (lv' := [(4, .int 1), (3, .int v11), (2, .int 0), (0, .ref (wA w 17)), (1, .int x3)]) hC dX9_wordToken_49 (by decide) rfl ?_
    refine r_iconst (v := 0) hC dX9_wordToken_51 (by decide) ?_
    refine r_istore (lv' := [(5, .int 0), (4, .int 1), (3, .int v11), (2, .int 0), (0, .ref (wA w 17)), (1, .int x3)]) hC dX9_wordToken_52 (by decide) rfl ?_
    refine r_lv [4, 5, 3, 2, 1, 0] rfl ?_
    refine w_X9_wordToken_l54 hC hret x3 σ10 _ ?_ FU 0 v11 1 0
    · intro x16
      refine r_sipush (v := 10000) hC dX9_wordToken_126 (by decide) ?_
      refine r_iload_n hC dX9_wordToken_129 rfl 0 rfl ?_
      refine r_iadd hC dX9_wordToken_130 ?_
      exact r_iret hC hret rfl dX9_wordToken_131
set_option maxHeartbeats 4000000 in
set_option maxRecDepth 100000 in
theorem w_X9_next_l5 {X : Mc} {w : Wd} (hC : Cok X w (Aw w (xs_ X).heap.size) yX9_next.cls cX9_next 3 7 167 shX rX 66) (hret : (xmeth X).sig.returnType = none) (σ : St)   (K4 : Int32 → Option St) (hK4 : ∀ (x3 : Int32), RF X w (Aw w (xs_ X).heap.size) 3 (QV X w) (K4 x3) 36 [(0, .ref (wA w 17)), (1, .int x3)] [] σ) : ∀ (n : Nat) (x2 : Int32), RF X w (Aw w (xs_ X).heap.size) 3 (QV X w) (f_X9_next_l5 σ K4 n x2) 5 [(0, .ref (wA w 17)), (1, .int x2)] [] σ := by
  intro n
  induction n with
  | zero => intro x2; rw [f_X9_next_l5]; exact r_none
  | succ n ih =>
    intro x2
    rw [f_X9_next_l5]
    refine r_iload_n hC dX9_next_5 rfl 1 rfl ?_
    refine r_aload_n hC dX9_next_6 rfl 0 rfl ?_
    refine r_getR hC clX9 17 0 15 rfl rfl rfl (hC.n rfl) rfl lf_X9_15 dX9_next_7 ?_
    refine r_getI hC clX8 15 1 rfl rfl (hC.n rfl) rfl lf_X9_56 dX9_next_10 ?_
    refine r_nmI (fun v5 => ?_)
    refine r_icmp_ge hC 36 dX9_next_13 (by decide) (fun c6 => ?_) (fun c6 => ?_)
    · exact r_lv [0, 1] rfl (hK4 x2)
    · refine r_aload_n hC dX9_next_16 rfl 0 rfl ?_
      refine r_getR hC clX9 17 0 15 rfl rfl rfl (hC.n rfl) rfl lf_X9_15 dX9_next_17 ?_
      refine r_iload_n hC dX9_next_20 rfl 1 rfl ?_
      refine r_callVP hC (b := 15) (ci := 8) (st := []) [.int x2] rfl (hC.n rfl) rfl rfl (c_X8_at hC.w σ x2) yk_X8_at lm_X9_59 rfl ⟨rfl, rfl⟩ rfl dX9_next_21 (fun v7 => ?_)
      refine r_callSP hC (st := []) [.int v7] (c_X8_isBlank hC.w σ v7) yk_X8_isBlank lm_X9_63 rfl ⟨rfl, rfl⟩ rfl dX9_next_24 (fun v8 => ?_)
      refine r_if_eq hC 36 dX9_next_27 (by decide) (fun c9 => ?_) (fun c9 => ?_)
      · exact r_lv [0, 1] rfl (hK4 x2)
      · refine r_iinc (v := x2 + 1) (lv' := [(1, .int (x2 + 1)), (0, .ref (wA w 17))]) hC dX9_next_30 1 rfl rfl (by decide) rfl ?_
        refine r_goto hC 5 dX9_next_33 (by decide) ?_
        exact r_lv [1, 0] rfl (ih (x2 + 1))
set_option maxHeartbeats 4000000 in
set_option maxRecDepth 100000 in
theorem c_X9_next {l : Launch} {w : Wd} (hW : HWd w shX rX 66) (σ : St)   : ∀ res, f_X9_next σ = some res → MtV l yX9_next cX9_next 3 7 167 w [.ref (wA w 17)] σ res := by
  refine mt_V (by decide) rfl hW (fun X hl0 hC hret => ?_)
  show RF X w (Aw w (xs_ X).heap.size) 3 (QV X w) (f_X9_next σ) 0 [(0, .ref (wA w 17))] [] σ
  unfold f_X9_next
  refine r_aload_n hC dX9_next_0 rfl 0 rfl ?_
  refine r_getI hC clX9 17 6 rfl rfl (hC.n rfl) rfl lf_X9_26 dX9_next_1 ?_
  refine r_nmI (fun v1 => ?_)
  refine r_istore_n (lv' := [(1, .int v1), (0, .ref (wA w 17))]) hC dX9_next_4 rfl (by decide) rfl ?_
  refine r_lv [1, 0] rfl ?_
  refine w_X9_next_l5 hC hret σ _ ?_ FU v1
  · intro x3
    refine r_aload_n hC dX9_next_36 rfl 0 rfl ?_
    refine r_getR hC clX9 17 0 15 rfl rfl rfl (hC.n rfl) rfl lf_X9_15 dX9_next_37 ?_
    refine r_iload_n hC dX9_next_40 rfl 1 rfl ?_
    refine r_callVP hC (b := 15) (ci := 8) (st := []) [.int x3] rfl (hC.n rfl) rfl rfl (c_X8_at hC.w σ x3) yk_X8_at lm_X9_59 rfl ⟨rfl, rfl⟩ rfl dX9_next_41 (fun v10 => ?_)
    refine r_istore_n (lv' := [(2, .int v10), (0, .ref (wA w 17)), (1, .int x3)]) hC dX9_next_44 rfl (by decide) rfl ?_
    refine r_aload_n hC dX9_next_45 rfl 1 rfl ?_
    refine r_iload_n hC dX9_next_46 rfl 2 rfl ?_
    refine r_putI hC clX9 17 5 rfl rfl rfl (hC.n rfl) rfl rfl lf_X9_44 dX9_next_47 ?_
    refine r_nmS (fun σ11 => ?_)
    refine r_aload_n hC dX9_next_50 rfl 1 rfl ?_
    refine r_iload_n hC dX9_next_51 rfl 2 rfl ?_
    refine r_iconst (v := 1) hC dX9_next_52 (by decide) ?_
    refine r_iadd hC dX9_next_53 ?_
    refine r_putI hC clX9 17 6 rfl rfl rfl (hC.n rfl) rfl rfl lf_X9_26 dX9_next_54 ?_
    refine r_nmS (fun σ12 => ?_)
    refine r_iload_n hC dX9_next_57 rfl 2 rfl ?_
    refine r_aload_n hC dX9_next_58 rfl 1 rfl ?_
    refine r_getR hC clX9 17 0 15 rfl rfl rfl (hC.n rfl) rfl lf_X9_15 dX9_next_59 ?_
    refine r_getI hC clX8 15 1 rfl rfl (hC.n rfl) rfl lf_X9_56 dX9_next_62 ?_
    refine r_nmI (fun v13 => ?_)
    refine r_icmp_lt hC 76 dX9_next_65 (by decide) (fun c14 => ?_) (fun c14 => ?_)
    · refine r_iload_n hC dX9_next_76 rfl 0 rfl ?_
      refine r_callSP hC (st := []) [.int v10] (c_X8_isLetter hC.w σ12 v10) yk_X8_isLetter lm_X9_66 rfl ⟨rfl, rfl⟩ rfl dX9_next_77 (fun v15 => ?_)
      refine r_if_eq hC 94 dX9_next_80 (by decide) (fun c16 => ?_) (fun c16 => ?_)
      · refine r_iload_n hC dX9_next_94 rfl 0 rfl ?_
        refine r_callSP hC (st := []) [.int v10] (c_X8_digitOf hC.w σ12 v10) yk_X8_digitOf lm_X9_73 rfl ⟨rfl, rfl⟩ rfl dX9_next_95 (fun v17 => ?_)
        refine r_iconst (v := (-1)) hC dX9_next_98 (by decide) ?_
        refine r_icmp_eq hC 113 dX9_next_99 (by decide) (fun c18 => ?_) (fun c18 => ?_)
        · refine r_aload_n hC dX9_next_113 rfl 1 rfl ?_
          refine r_ldcS (i := 1) hC (fun h9 => h9.2.1.2.1) dX9_next_114 ?_
          refine r_iload_n hC dX9_next_116 rfl 0 rfl ?_
          refine r_i2c hC dX9_next_117 ?_
          refine r_callTP hC (st := [.ref (wA w 17)]) 1 (by decide) [.int (UInt32.toInt32 (Int32.toUInt32 v10 % 65536))] rfl (c_J0_indexOf_0f7a4 hC.w σ12 1 (UInt32.toInt32 (Int32.toUInt32 v10 % 65536)) (by decide)) yk_J0_indexOf_0f7a4 lm_X9_81 rfl ⟨rfl, rfl⟩ rfl dX9_next_118 (fun v19 => ?_)
          refine r_jn (T := fun (j21 : Int32 → Option St) => ∀ (t20 : Int32), RF X w (Aw w (xs_ X).heap.size) 3 (QV X w) (j21 t20) 134 [] [.int t20, .ref (wA w 17)] σ12) ?_ (fun j21 hj21 => ?_)
          · intro t20
            refine r_putI hC clX9 17 4 rfl rfl rfl (hC.n rfl) rfl rfl lf_X9_41 dX9_next_134 ?_
            refine r_nmS (fun σ22 => ?_)
            exact r_vret hC hret dX9_next_137
          · refine r_if_lt hC 132 dX9_next_121 (by decide) (fun c23 => ?_) (fun c23 => ?_)
            · refine r_bipush (v := (-2)) hC dX9_next_132 (by decide) ?_
              exact r_lv [] rfl (hj21 (-2))
            · refine r_sipush (v := 20000) hC dX9_next_124 (by decide) ?_
              refine r_iload_n hC dX9_next_127 rfl 0 rfl ?_
              refine r_iadd hC dX9_next_128 ?_
              refine r_goto hC 134 dX9_next_129 (by decide) ?_
              exact r_lv [] rfl (hj21 (20000 + v10))
        · refine r_aload_n hC dX9_next_102 rfl 1 rfl ?_
          refine r_aload_n hC dX9_next_103 rfl 1 rfl ?_
          refine r_callVI hC (b := 17) (ci := 9) (st := [.ref (wA w 17)]) [] rfl (hC.n rfl) rfl rfl (c_X9_numberToken hC.w σ12) yk_X9_numberToken lm_X9_76 rfl ⟨rfl, rfl⟩ rfl dX9_next_104 (fun v24 σ25 => ?_)
          refine r_putI hC clX9 17 4 rfl rfl rfl (hC.n rfl) rfl rfl lf_X9_41 dX9_next_107 ?_
          refine r_nmS (fun σ26 => ?_)
          refine r_goto hC 137 dX9_next_110 (by decide) ?_
          exact r_vret hC hret dX9_next_137
      · refine r_aload_n hC dX9_next_83 rfl 1 rfl ?_
        refine r_aload_n hC dX9_next_84 rfl 1 rfl ?_
        refine r_callVI hC (b := 17) (ci := 9) (st := [.ref (wA w 17)]) [] rfl (hC.n rfl) rfl rfl (c_X9_wordToken hC.w σ12) yk_X9_wordToken lm_X9_69 rfl ⟨rfl, rfl⟩ rfl dX9_next_85 (fun v27 σ28 => ?_)
        refine r_putI hC clX9 17 4 rfl rfl rfl (hC.n rfl) rfl rfl lf_X9_41 dX9_next_88 ?_
        refine r_nmS (fun σ29 => ?_)
        refine r_goto hC 137 dX9_next_91 (by decide) ?_
        exact r_vret hC hret dX9_next_137
    · refine r_aload_n hC dX9_next_68 rfl 1 rfl ?_
      refine r_iconst (v := (-1)) hC dX9_next_69 (by decide) ?_
      refine r_putI hC clX9 17 4 rfl rfl rfl (hC.n rfl) rfl rfl lf_X9_41 dX9_next_70 ?_
      refine r_nmS (fun σ30 => ?_)
      refine r_goto hC 137 dX9_next_73 (by decide) ?_
      exact r_vret hC hret dX9_next_137
set_option maxHeartbeats 4000000 in
set_option maxRecDepth 100000 in
theorem c_X9_take {l : Launch} {w : Wd} (hW : HWd w shX rX 66) (σ : St) (a2 : Int32)  : ∀ res, f_X9_take σ a2 = some res → MtI l yX9_take cX9_take 2 .boolean 8 189 w [.ref (wA w 17), .int a2] σ res := by
  refine mt_I (by decide) rfl hW (fun X hl0 hC hret => ?_)
  show RF X w (Aw w (xs_ X).heap.size) 2 (QI X w) (f_X9_take σ a2) 0 [(0, .ref (wA w 17)), (1, .int a2)] [] σ
  unfold f_X9_take
  refine r_aload_n hC dX9_take_0 rfl 0 rfl ?_
  refine r_getI hC clX9 17 4 rfl rfl (hC.n rfl) rfl lf_X9_41 dX9_take_1 ?_
  refine r_nmI (fun v1 => ?_)
  refine r_iload_n hC dX9_take_4 rfl 1 rfl ?_
  refine r_icmp_eq hC 10 dX9_take_5 (by decide) (fun c2 => ?_) (fun c2 => ?_)
  · refine r_aload_n hC dX9_take_10 rfl 0 rfl ?_
    refine r_callVV hC (b := 17) (ci := 9) (st := []) [] rfl (hC.n rfl) rfl rfl (c_X9_next hC.w σ) yk_X9_next lm_X9_29 rfl ⟨rfl, rfl⟩ rfl dX9_take_11 (fun σ3 => ?_)
    refine r_iconst (v := 1) hC dX9_take_14 (by decide) ?_
    exact r_iret hC hret rfl dX9_take_15
  · refine r_iconst (v := 0) hC dX9_take_8 (by decide) ?_
    exact r_iret hC hret rfl dX9_take_9
set_option maxHeartbeats 4000000 in
set_option maxRecDepth 100000 in
theorem c_X9_put {l : Launch} {w : Wd} (hW : HWd w shX rX 66) (σ : St) (a2 : Int32)  : ∀ res, f_X9_put σ a2 = some res → MtV l yX9_put cX9_put 2 0 0 w [.ref (wA w 17), .int a2] σ res := by
  refine mt_V (by decide) rfl hW (fun X hl0 hC hret => ?_)
  show RF X w (Aw w (xs_ X).heap.size) 2 (QV X w) (f_X9_put σ a2) 0 [(0, .ref (wA w 17)), (1, .int a2)] [] σ
  unfold f_X9_put
  refine r_aload_n hC dX9_put_0 rfl 0 rfl ?_
  refine r_getI hC clX9 17 2 rfl rfl (hC.n rfl) rfl lf_X9_19 dX9_put_1 ?_
  refine r_nmI (fun v1 => ?_)
  refine r_aload_n hC dX9_put_4 rfl 0 rfl ?_
  refine r_getR hC clX9 17 1 18 rfl rfl rfl (hC.n rfl) rfl lf_X9_9 dX9_put_5 ?_
  refine r_alen1 (v := 160) hC 18 160 rfl rfl (by decide) dX9_put_8 ?_
  refine r_icmp_ge hC 32 dX9_put_9 (by decide) (fun c2 => ?_) (fun c2 => ?_)
  · exact r_vret hC hret dX9_put_32
  · refine r_aload_n hC dX9_put_12 rfl 0 rfl ?_
    refine r_getR hC clX9 17 1 18 rfl rfl rfl (hC.n rfl) rfl lf_X9_9 dX9_put_13 ?_
    refine r_aload_n hC dX9_put_16 rfl 0 rfl ?_
    refine r_getI hC clX9 17 2 rfl rfl (hC.n rfl) rfl lf_X9_19 dX9_put_17 ?_
    refine r_nmI (fun v3 => ?_)
    refine r_iload_n hC dX9_put_20 rfl 1 rfl ?_
    refine r_gd (fun g4 => ?_)
    refine r_iast hC 18 160 rfl rfl g4 dX9_put_21 ?_
    refine r_nmS (fun σ5 => ?_)
    refine r_aload_n hC dX9_put_22 rfl 0 rfl ?_
    refine r_dup hC dX9_put_23 rfl ?_
    refine r_getI hC clX9 17 2 rfl rfl (hC.n rfl) rfl lf_X9_19 dX9_put_24 ?_
    refine r_nmI (fun v6 => ?_)
    refine r_iconst (v := 1) hC dX9_put_27 (by decide) ?_
    refine r_iadd hC dX9_put_28 ?_
    refine r_putI hC clX9 17 2 rfl rfl rfl (hC.n rfl) rfl rfl lf_X9_19 dX9_put_29 ?_
    refine r_nmS (fun σ7 => ?_)
    exact r_vret hC hret dX9_put_32
set_option maxHeartbeats 4000000 in
set_option maxRecDepth 100000 in
theorem cb_X9_readOne {l : Launch} {w : Wd} (hW : HWd w shX rX 66) (dd : Nat) (rc : Nat → St → Int32 → Option (Int32 × St)) (hr0 : ∀ (σ : St) (b1 : Int32) (res : (Int32 × St)), rc 0 σ b1 = some res → MtI l yX9_readOne cX9_readOne 3 .boolean (9 + dd) (210 + 40 * dd) w [.ref (wA w 17), .int b1] σ res) (hr5 : ∀ (σ : St) (b1 : Int32) (res : (Int32 × St)), rc 5 σ b1 = some res → MtI l yX9_readEither cX9_readEither 4 .boolean (9 + dd) (210 + 40 * dd) w [.ref (wA w 17), .int b1] σ res) (σ : St) (a2 : Int32) : ∀ res, fb_X9_readOne rc σ a2 = some res → MtI l yX9_readOne cX9_readOne 3 .boolean (9 + (dd + 1)) (210 + 40 * (dd + 1)) w [.ref (wA w 17), .int a2] σ res := by
  refine mt_I (by decide) rfl hW (fun X hl0 hC hret => ?_)
  subst hl0
  show RF X w (Aw w (xs_ X).heap.size) 3 (QI X w) (fb_X9_readOne rc σ a2) 0 [(0, .ref (wA w 17)), (1, .int a2)] [] σ
  unfold fb_X9_readOne
  refine r_aload_n hC dX9_readOne_0 rfl 0 rfl ?_
  refine r_getI hC clX9 17 4 rfl rfl (hC.n rfl) rfl lf_X9_41 dX9_readOne_1 ?_
  refine r_nmI (fun v1 => ?_)
  refine r_callSP hC (st := []) [.int v1] (c_X6_isOperand hC.w σ v1) yk_X6_isOperand lm_X9_114 rfl ⟨Nat.ble_eq.mpr (by omega), Nat.ble_eq.mpr (by omega)⟩ rfl dX9_readOne_4 (fun v2 => ?_)
  refine r_if_eq hC 24 dX9_readOne_7 (by decide) (fun c3 => ?_) (fun c3 => ?_)
  · refine r_iload_n hC dX9_readOne_24 rfl 1 rfl ?_
    refine r_iconst (v := 5) hC dX9_readOne_25 (by decide) ?_
    refine r_icmp_lt hC 31 dX9_readOne_26 (by decide) (fun c4 => ?_) (fun c4 => ?_)
    · refine r_aload_n hC dX9_readOne_31 rfl 0 rfl ?_
      refine r_getI hC clX9 17 4 rfl rfl (hC.n rfl) rfl lf_X9_41 dX9_readOne_32 ?_
      refine r_nmI (fun v5 => ?_)
      refine r_sipush (v := 20045) hC dX9_readOne_35 (by decide) ?_
      refine r_icmp_ne hC 62 dX9_readOne_38 (by decide) (fun c6 => ?_) (fun c6 => ?_)
      · refine r_aload_n hC dX9_readOne_62 rfl 0 rfl ?_
        refine r_sipush (v := 20040) hC dX9_readOne_63 (by decide) ?_
        refine r_callVI hC (b := 17) (ci := 9) (st := []) [.int 20040] rfl (hC.n rfl) rfl rfl (c_X9_take hC.w σ 20040) yk_X9_take lm_X9_34 rfl ⟨Nat.ble_eq.mpr (by omega), Nat.ble_eq.mpr (by omega)⟩ rfl dX9_readOne_66 (fun v7 σ8 => ?_)
        refine r_if_eq hC 96 dX9_readOne_69 (by decide) (fun c9 => ?_) (fun c9 => ?_)
        · refine r_iconst (v := 0) hC dX9_readOne_96 (by decide) ?_
          exact r_iret hC hret rfl dX9_readOne_97
        · refine r_aload_n hC dX9_readOne_72 rfl 0 rfl ?_
          refine r_iload_n hC dX9_readOne_73 rfl 1 rfl ?_
          refine r_iconst (v := 1) hC dX9_readOne_74 (by decide) ?_
          refine r_iadd hC dX9_readOne_75 ?_
          refine r_callVI hC (b := 17) (ci := 9) (st := []) [.int (a2 + 1)] rfl (hC.n rfl) rfl rfl (hr5 σ8 (a2 + 1)) yk_X9_readEither lm_X9_38 rfl ⟨Nat.ble_eq.mpr (by omega), Nat.ble_eq.mpr (by omega)⟩ rfl dX9_readOne_76 (fun v10 σ11 => ?_)
          refine r_if_eq hC 96 dX9_readOne_79 (by decide) (fun c12 => ?_) (fun c12 => ?_)
          · refine r_iconst (v := 0) hC dX9_readOne_96 (by decide) ?_
            exact r_iret hC hret rfl dX9_readOne_97
          · refine r_aload_n hC dX9_readOne_82 rfl 0 rfl ?_
            refine r_sipush (v := 20041) hC dX9_readOne_83 (by decide) ?_
            refine r_callVI hC (b := 17) (ci := 9) (st := []) [.int 20041] rfl (hC.n rfl) rfl rfl (c_X9_take hC.w σ11 20041) yk_X9_take lm_X9_34 rfl ⟨Nat.ble_eq.mpr (by omega), Nat.ble_eq.mpr (by omega)⟩ rfl dX9_readOne_86 (fun v13 σ14 => ?_)
            refine r_if_eq hC 96 dX9_readOne_89 (by decide) (fun c15 => ?_) (fun c15 => ?_)
            · refine r_iconst (v := 0) hC dX9_readOne_96 (by decide) ?_
              exact r_iret hC hret rfl dX9_readOne_97
            · refine r_iconst (v := 1) hC dX9_readOne_92 (by decide) ?_
              refine r_goto hC 97 dX9_readOne_93 (by decide) ?_
              exact r_iret hC hret rfl dX9_readOne_97
      · refine r_aload_n hC dX9_readOne_41 rfl 0 rfl ?_
        refine r_callVV hC (b := 17) (ci := 9) (st := []) [] rfl (hC.n rfl) rfl rfl (c_X9_next hC.w σ) yk_X9_next lm_X9_29 rfl ⟨Nat.ble_eq.mpr (by omega), Nat.ble_eq.mpr (by omega)⟩ rfl dX9_readOne_42 (fun σ16 => ?_)
        refine r_aload_n hC dX9_readOne_45 rfl 0 rfl ?_
        refine r_iload_n hC dX9_readOne_46 rfl 1 rfl ?_
        refine r_iconst (v := 1) hC dX9_readOne_47 (by decide) ?_
        refine r_iadd hC dX9_readOne_48 ?_
        refine r_callVI hC (b := 17) (ci := 9) (st := []) [.int (a2 + 1)] rfl (hC.n rfl) rfl rfl (hr0 σ16 (a2 + 1)) yk_X9_readOne lm_X9_111 rfl ⟨Nat.ble_eq.mpr (by omega), Nat.ble_eq.mpr (by omega)⟩ rfl dX9_readOne_49 (fun v17 σ18 => ?_)
        refine r_istore_n (lv' := [(2, .int v17), (0, .ref (wA w 17)), (1, .int a2)]) hC dX9_readOne_52 rfl (by decide) rfl ?_
        refine r_aload_n hC dX9_readOne_53 rfl 1 rfl ?_
        refine r_sipush (v := 30000) hC dX9_readOne_54 (by decide) ?_
        refine r_callVV hC (b := 17) (ci := 9) (st := []) [.int 30000] rfl (hC.n rfl) rfl rfl (c_X9_put hC.w σ18 30000) yk_X9_put lm_X9_98 rfl ⟨Nat.ble_eq.mpr (by omega), Nat.ble_eq.mpr (by omega)⟩ rfl dX9_readOne_57 (fun σ19 => ?_)
        refine r_iload_n hC dX9_readOne_60 rfl 0 rfl ?_
        refine r_gd (fun g20 => ?_)
        exact r_iret hC hret (by rcases g20 with h9 | h9 <;> rw [h9] <;> rfl) dX9_readOne_61
    · refine r_iconst (v := 0) hC dX9_readOne_29 (by decide) ?_
      exact r_iret hC hret rfl dX9_readOne_30
  · refine r_aload_n hC dX9_readOne_10 rfl 0 rfl ?_
    refine r_aload_n hC dX9_readOne_11 rfl 0 rfl ?_
    refine r_getI hC clX9 17 4 rfl rfl (hC.n rfl) rfl lf_X9_41 dX9_readOne_12 ?_
    refine r_nmI (fun v21 => ?_)
    refine r_callVV hC (b := 17) (ci := 9) (st := []) [.int v21] rfl (hC.n rfl) rfl rfl (c_X9_put hC.w σ v21) yk_X9_put lm_X9_98 rfl ⟨Nat.ble_eq.mpr (by omega), Nat.ble_eq.mpr (by omega)⟩ rfl dX9_readOne_15 (fun σ22 => ?_)
    refine r_aload_n hC dX9_readOne_18 rfl 0 rfl ?_
    refine r_callVV hC (b := 17) (ci := 9) (st := []) [] rfl (hC.n rfl) rfl rfl (c_X9_next hC.w σ22) yk_X9_next lm_X9_29 rfl ⟨Nat.ble_eq.mpr (by omega), Nat.ble_eq.mpr (by omega)⟩ rfl dX9_readOne_19 (fun σ23 => ?_)
    refine r_iconst (v := 1) hC dX9_readOne_22 (by decide) ?_
    exact r_iret hC hret rfl dX9_readOne_23
set_option maxHeartbeats 4000000 in
set_option maxRecDepth 100000 in
theorem w_X9_readTerm_l8 {dd : Nat} {X : Mc} {w : Wd} (hC : Cok X w (Aw w (xs_ X).heap.size) yX9_readTerm.cls cX9_readTerm 4 (9 + (dd + 1)) (210 + 40 * (dd + 1)) shX rX 66) (hret : (xmeth X).sig.returnType = some .boolean) (rc : Nat → St → Int32 → Option (Int32 × St)) (a2 : Int32) (σ : St) (σ2 : St) (hr0 : ∀ (σ : St) (b1 : Int32) (res : (Int32 × St)), rc 0 σ b1 = some res → MtI X.2.1 yX9_readOne cX9_readOne 3 .boolean (9 + dd) (210 + 40 * dd) w [.ref (wA w 17), .int b1] σ res)    : ∀ (n : Nat) (x3 : Int32) (x4 : Int32) (σ5 : St), RF X w (Aw w (xs_ X).heap.size) 4 (QI X w) (f_X9_readTerm_l8 rc a2 n x3 x4 σ5) 8 [(0, .ref (wA w 17)), (1, .int a2), (2, .int x3), (3, .int x4)] [] σ5 := by
  intro n
  induction n with
  | zero => intro x3 x4 σ5; rw [f_X9_readTerm_l8]; exact r_none
  | succ n ih =>
    intro x3 x4 σ5
    rw [f_X9_readTerm_l8]
    refine r_iload_n hC dX9_readTerm_8 rfl 3 rfl ?_
    refine r_sipush (v := 160) hC dX9_readTerm_9 (by decide) ?_
    refine r_icmp_ge hC 52 dX9_readTerm_12 (by decide) (fun c6 => ?_) (fun c6 => ?_)
    · refine r_iload_n hC dX9_readTerm_52 rfl 2 rfl ?_
      refine r_gd (fun g7 => ?_)
      exact r_iret hC hret (by rcases g7 with h9 | h9 <;> rw [h9] <;> rfl) dX9_readTerm_53
    · refine r_iload_n hC dX9_readTerm_15 rfl 2 rfl ?_
      refine r_if_eq hC 52 dX9_readTerm_16 (by decide) (fun c8 => ?_) (fun c8 => ?_)
      · refine r_iload_n hC dX9_readTerm_52 rfl 2 rfl ?_
        refine r_gd (fun g9 => ?_)
        exact r_iret hC hret (by rcases g9 with h9 | h9 <;> rw [h9] <;> rfl) dX9_readTerm_53
      · refine r_aload_n hC dX9_readTerm_19 rfl 0 rfl ?_
        refine r_getI hC clX9 17 4 rfl rfl (hC.n rfl) rfl lf_X9_41 dX9_readTerm_20 ?_
        refine r_nmI (fun v10 => ?_)
        refine r_sipush (v := 20042) hC dX9_readTerm_23 (by decide) ?_
        refine r_icmp_ne hC 52 dX9_readTerm_26 (by decide) (fun c11 => ?_) (fun c11 => ?_)
        · refine r_iload_n hC dX9_readTerm_52 rfl 2 rfl ?_
          refine r_gd (fun g12 => ?_)
          exact r_iret hC hret (by rcases g12 with h9 | h9 <;> rw [h9] <;> rfl) dX9_readTerm_53
        · refine r_aload_n hC dX9_readTerm_29 rfl 0 rfl ?_
          refine r_callVV hC (b := 17) (ci := 9) (st := []) [] rfl (hC.n rfl) rfl rfl (c_X9_next hC.w σ5) yk_X9_next lm_X9_29 rfl ⟨Nat.ble_eq.mpr (by omega), Nat.ble_eq.mpr (by omega)⟩ rfl dX9_readTerm_30 (fun σ13 => ?_)
          refine r_aload_n hC dX9_readTerm_33 rfl 0 rfl ?_
          refine r_iload_n hC dX9_readTerm_34 rfl 1 rfl ?_
          refine r_callVI hC (b := 17) (ci := 9) (st := []) [.int a2] rfl (hC.n rfl) rfl rfl (hr0 σ13 a2) yk_X9_readOne lm_X9_111 rfl ⟨Nat.ble_eq.mpr (by omega), Nat.ble_eq.mpr (by omega)⟩ rfl dX9_readTerm_35 (fun v14 σ15 => ?_)
          refine r_istore_n (lv' := [(2, .int v14), (0, .ref (wA w 17)), (1, .int a2), (3, .int x4)]) hC dX9_readTerm_38 rfl (by decide) rfl ?_
          refine r_aload_n hC dX9_readTerm_39 rfl 1 rfl ?_
          refine r_sipush (v := 20042) hC dX9_readTerm_40 (by decide) ?_
          refine r_callVV hC (b := 17) (ci := 9) (st := []) [.int 20042] rfl (hC.n rfl) rfl rfl (c_X9_put hC.w σ15 20042) yk_X9_put lm_X9_98 rfl ⟨Nat.ble_eq.mpr (by omega), Nat.ble_eq.mpr (by omega)⟩ rfl dX9_readTerm_43 (fun σ16 => ?_)
          refine r_iinc (v := x4 + 1) (lv' := [(3, .int (x4 + 1)), (2, .int v14), (0, .ref (wA w 17)), (1, .int a2)]) hC dX9_readTerm_46 3 rfl rfl (by decide) rfl ?_
          refine r_goto hC 8 dX9_readTerm_49 (by decide) ?_
          exact r_lv [2, 3, 1, 0] rfl (ih v14 (x4 + 1) σ16)
set_option maxHeartbeats 4000000 in
set_option maxRecDepth 100000 in
theorem cb_X9_readTerm {l : Launch} {w : Wd} (hW : HWd w shX rX 66) (dd : Nat) (rc : Nat → St → Int32 → Option (Int32 × St)) (hr0 : ∀ (σ : St) (b1 : Int32) (res : (Int32 × St)), rc 0 σ b1 = some res → MtI l yX9_readOne cX9_readOne 3 .boolean (9 + dd) (210 + 40 * dd) w [.ref (wA w 17), .int b1] σ res) (σ : St) (a2 : Int32) : ∀ res, fb_X9_readTerm rc σ a2 = some res → MtI l yX9_readTerm cX9_readTerm 4 .boolean (9 + (dd + 1)) (210 + 40 * (dd + 1)) w [.ref (wA w 17), .int a2] σ res := by
  refine mt_I (by decide) rfl hW (fun X hl0 hC hret => ?_)
  subst hl0
  show RF X w (Aw w (xs_ X).heap.size) 4 (QI X w) (fb_X9_readTerm rc σ a2) 0 [(0, .ref (wA w 17)), (1, .int a2)] [] σ
  unfold fb_X9_readTerm
  refine r_aload_n hC dX9_readTerm_0 rfl 0 rfl ?_
  refine r_iload_n hC dX9_readTerm_1 rfl 1 rfl ?_
  refine r_callVI hC (b := 17) (ci := 9) (st := []) [.int a2] rfl (hC.n rfl) rfl rfl (hr0 σ a2) yk_X9_readOne lm_X9_111 rfl ⟨Nat.ble_eq.mpr (by omega), Nat.ble_eq.mpr (by omega)⟩ rfl dX9_readTerm_2 (fun v1 σ2 => ?_)
  refine r_istore_n (lv' := [(2, .int v1), (0, .ref (wA w 17)), (1, .int a2)]) hC dX9_readTerm_5 rfl (by decide) rfl ?_
  refine r_iconst (v := 0) hC dX9_readTerm_6 (by decide) ?_
  refine r_istore_n (lv' := [(3, .int 0), (2, .int v1), (0, .ref (wA w 17)), (1, .int a2)]) hC dX9_readTerm_7 rfl (by decide) rfl ?_
  refine r_lv [2, 3, 1, 0] rfl ?_
  exact w_X9_readTerm_l8 hC hret rc a2 σ σ2 hr0 FU v1 0 σ2
set_option maxHeartbeats 4000000 in
set_option maxRecDepth 100000 in
theorem w_X9_readSum_l8 {dd : Nat} {X : Mc} {w : Wd} (hC : Cok X w (Aw w (xs_ X).heap.size) yX9_readSum.cls cX9_readSum 5 (9 + (dd + 1)) (210 + 40 * (dd + 1)) shX rX 66) (hret : (xmeth X).sig.returnType = some .boolean) (rc : Nat → St → Int32 → Option (Int32 × St)) (a2 : Int32) (σ : St) (σ2 : St) (hr1 : ∀ (σ : St) (b1 : Int32) (res : (Int32 × St)), rc 1 σ b1 = some res → MtI X.2.1 yX9_readTerm cX9_readTerm 4 .boolean (9 + dd) (210 + 40 * dd) w [.ref (wA w 17), .int b1] σ res)    : ∀ (n : Nat) (x3 : Int32) (x4 : Int32) (σ5 : St), RF X w (Aw w (xs_ X).heap.size) 5 (QI X w) (f_X9_readSum_l8 rc a2 n x3 x4 σ5) 8 [(0, .ref (wA w 17)), (1, .int a2), (2, .int x3), (3, .int x4)] [] σ5 := by
  intro n
  induction n with
  | zero => intro x3 x4 σ5; rw [f_X9_readSum_l8]; exact r_none
  | succ n ih =>
    intro x3 x4 σ5
    rw [f_X9_readSum_l8]
    refine r_iload_n hC dX9_readSum_8 rfl 3 rfl ?_
    refine r_sipush (v := 160) hC dX9_readSum_9 (by decide) ?_
    refine r_icmp_ge hC 67 dX9_readSum_12 (by decide) (fun c6 => ?_) (fun c6 => ?_)
    · refine r_iload_n hC dX9_readSum_67 rfl 2 rfl ?_
      refine r_gd (fun g7 => ?_)
      exact r_iret hC hret (by rcases g7 with h9 | h9 <;> rw [h9] <;> rfl) dX9_readSum_68
    · refine r_iload_n hC dX9_readSum_15 rfl 2 rfl ?_
      refine r_if_eq hC 67 dX9_readSum_16 (by decide) (fun c8 => ?_) (fun c8 => ?_)
      · refine r_iload_n hC dX9_readSum_67 rfl 2 rfl ?_
        refine r_gd (fun g9 => ?_)
        exact r_iret hC hret (by rcases g9 with h9 | h9 <;> rw [h9] <;> rfl) dX9_readSum_68
      · refine r_aload_n hC dX9_readSum_19 rfl 0 rfl ?_
        refine r_getI hC clX9 17 4 rfl rfl (hC.n rfl) rfl lf_X9_41 dX9_readSum_20 ?_
        refine r_nmI (fun v10 => ?_)
        refine r_sipush (v := 20043) hC dX9_readSum_23 (by decide) ?_
        refine r_jn (T := fun (j11 : Option (Int32 × St)) => RF X w (Aw w (xs_ X).heap.size) 5 (QI X w) j11 39 [(0, .ref (wA w 17)), (1, .int a2), (3, .int x4)] [] σ5) ?_ (fun j11 hj11 => ?_)
        · refine r_aload_n hC dX9_readSum_39 rfl 0 rfl ?_
          refine r_getI hC clX9 17 4 rfl rfl (hC.n rfl) rfl lf_X9_41 dX9_readSum_40 ?_
          refine r_nmI (fun v12 => ?_)
          refine r_istore (lv' := [(4, .int v12), (0, .ref (wA w 17)), (1, .int a2), (3, .int x4)]) hC dX9_readSum_43 (by decide) rfl ?_
          refine r_aload_n hC dX9_readSum_45 rfl 1 rfl ?_
          refine r_callVV hC (b := 17) (ci := 9) (st := []) [] rfl (hC.n rfl) rfl rfl (c_X9_next hC.w σ5) yk_X9_next lm_X9_29 rfl ⟨Nat.ble_eq.mpr (by omega), Nat.ble_eq.mpr (by omega)⟩ rfl dX9_readSum_46 (fun σ13 => ?_)
          refine r_aload_n hC dX9_readSum_49 rfl 1 rfl ?_
          refine r_iload_n hC dX9_readSum_50 rfl 2 rfl ?_
          refine r_callVI hC (b := 17) (ci := 9) (st := []) [.int a2] rfl (hC.n rfl) rfl rfl (hr1 σ13 a2) yk_X9_readTerm lm_X9_108 rfl ⟨Nat.ble_eq.mpr (by omega), Nat.ble_eq.mpr (by omega)⟩ rfl dX9_readSum_51 (fun v14 σ15 => ?_)
          refine r_istore_n (lv' := [(2, .int v14), (4, .int v12), (0, .ref (wA w 17)), (1, .int a2), (3, .int x4)]) hC dX9_readSum_54 rfl (by decide) rfl ?_
          refine r_aload_n hC dX9_readSum_55 rfl 2 rfl ?_
          refine r_iload hC dX9_readSum_56 1 rfl ?_
          refine r_callVV hC (b := 17) (ci := 9) (st := []) [.int v12] rfl (hC.n rfl) rfl rfl (c_X9_put hC.w σ15 v12) yk_X9_put lm_X9_98 rfl ⟨Nat.ble_eq.mpr (by omega), Nat.ble_eq.mpr (by omega)⟩ rfl dX9_readSum_58 (fun σ16 => ?_)
          refine r_iinc (v := x4 + 1) (lv' := [(3, .int (x4 + 1)), (2, .int v14), (4, .int v12), (0, .ref (wA w 17)), (1, .int a2)]) hC dX9_readSum_61 4 rfl rfl (by decide) rfl ?_
          refine r_goto hC 8 dX9_readSum_64 (by decide) ?_
          exact r_lv [3, 4, 1, 0] rfl (ih v14 (x4 + 1) σ16)
        · refine r_icmp_eq hC 39 dX9_readSum_26 (by decide) (fun c17 => ?_) (fun c17 => ?_)
          · exact r_lv [0, 1, 3] rfl hj11
          · refine r_aload_n hC dX9_readSum_29 rfl 0 rfl ?_
            refine r_getI hC clX9 17 4 rfl rfl (hC.n rfl) rfl lf_X9_41 dX9_readSum_30 ?_
            refine r_nmI (fun v18 => ?_)
            refine r_sipush (v := 20045) hC dX9_readSum_33 (by decide) ?_
            refine r_icmp_ne hC 67 dX9_readSum_36 (by decide) (fun c19 => ?_) (fun c19 => ?_)
            · refine r_iload_n hC dX9_readSum_67 rfl 2 rfl ?_
              refine r_gd (fun g20 => ?_)
              exact r_iret hC hret (by rcases g20 with h9 | h9 <;> rw [h9] <;> rfl) dX9_readSum_68
            · exact r_lv [0, 1, 3] rfl hj11
set_option maxHeartbeats 4000000 in
set_option maxRecDepth 100000 in
theorem cb_X9_readSum {l : Launch} {w : Wd} (hW : HWd w shX rX 66) (dd : Nat) (rc : Nat → St → Int32 → Option (Int32 × St)) (hr1 : ∀ (σ : St) (b1 : Int32) (res : (Int32 × St)), rc 1 σ b1 = some res → MtI l yX9_readTerm cX9_readTerm 4 .boolean (9 + dd) (210 + 40 * dd) w [.ref (wA w 17), .int b1] σ res) (σ : St) (a2 : Int32) : ∀ res, fb_X9_readSum rc σ a2 = some res → MtI l yX9_readSum cX9_readSum 5 .boolean (9 + (dd + 1)) (210 + 40 * (dd + 1)) w [.ref (wA w 17), .int a2] σ res := by
  refine mt_I (by decide) rfl hW (fun X hl0 hC hret => ?_)
  subst hl0
  show RF X w (Aw w (xs_ X).heap.size) 5 (QI X w) (fb_X9_readSum rc σ a2) 0 [(0, .ref (wA w 17)), (1, .int a2)] [] σ
  unfold fb_X9_readSum
  refine r_aload_n hC dX9_readSum_0 rfl 0 rfl ?_
  refine r_iload_n hC dX9_readSum_1 rfl 1 rfl ?_
  refine r_callVI hC (b := 17) (ci := 9) (st := []) [.int a2] rfl (hC.n rfl) rfl rfl (hr1 σ a2) yk_X9_readTerm lm_X9_108 rfl ⟨Nat.ble_eq.mpr (by omega), Nat.ble_eq.mpr (by omega)⟩ rfl dX9_readSum_2 (fun v1 σ2 => ?_)
  refine r_istore_n (lv' := [(2, .int v1), (0, .ref (wA w 17)), (1, .int a2)]) hC dX9_readSum_5 rfl (by decide) rfl ?_
  refine r_iconst (v := 0) hC dX9_readSum_6 (by decide) ?_
  refine r_istore_n (lv' := [(3, .int 0), (2, .int v1), (0, .ref (wA w 17)), (1, .int a2)]) hC dX9_readSum_7 rfl (by decide) rfl ?_
  refine r_lv [2, 3, 1, 0] rfl ?_
  exact w_X9_readSum_l8 hC hret rc a2 σ σ2 hr1 FU v1 0 σ2
set_option maxHeartbeats 4000000 in
set_option maxRecDepth 100000 in
theorem cb_X9_readNot {l : Launch} {w : Wd} (hW : HWd w shX rX 66) (dd : Nat) (rc : Nat → St → Int32 → Option (Int32 × St)) (hr2 : ∀ (σ : St) (b1 : Int32) (res : (Int32 × St)), rc 2 σ b1 = some res → MtI l yX9_readSum cX9_readSum 5 .boolean (9 + dd) (210 + 40 * dd) w [.ref (wA w 17), .int b1] σ res) (hr3 : ∀ (σ : St) (b1 : Int32) (res : (Int32 × St)), rc 3 σ b1 = some res → MtI l yX9_readNot cX9_readNot 4 .boolean (9 + dd) (210 + 40 * dd) w [.ref (wA w 17), .int b1] σ res) (σ : St) (a2 : Int32) : ∀ res, fb_X9_readNot rc σ a2 = some res → MtI l yX9_readNot cX9_readNot 4 .boolean (9 + (dd + 1)) (210 + 40 * (dd + 1)) w [.ref (wA w 17), .int a2] σ res := by
  refine mt_I (by decide) rfl hW (fun X hl0 hC hret => ?_)
  subst hl0
  show RF X w (Aw w (xs_ X).heap.size) 4 (QI X w) (fb_X9_readNot rc σ a2) 0 [(0, .ref (wA w 17)), (1, .int a2)] [] σ
  unfold fb_X9_readNot
  refine r_aload_n hC dX9_readNot_0 rfl 0 rfl ?_
  refine r_getI hC clX9 17 4 rfl rfl (hC.n rfl) rfl lf_X9_41 dX9_readNot_1 ?_
  refine r_nmI (fun v1 => ?_)
  refine r_sipush (v := 10010) hC dX9_readNot_4 (by decide) ?_
  refine r_icmp_ne hC 38 dX9_readNot_7 (by decide) (fun c2 => ?_) (fun c2 => ?_)
  · refine r_aload_n hC dX9_readNot_38 rfl 0 rfl ?_
    refine r_iload_n hC dX9_readNot_39 rfl 1 rfl ?_
    refine r_callVI hC (b := 17) (ci := 9) (st := []) [.int a2] rfl (hC.n rfl) rfl rfl (hr2 σ a2) yk_X9_readSum lm_X9_105 rfl ⟨Nat.ble_eq.mpr (by omega), Nat.ble_eq.mpr (by omega)⟩ rfl dX9_readNot_40 (fun v3 σ4 => ?_)
    refine r_istore_n (lv' := [(2, .int v3), (0, .ref (wA w 17)), (1, .int a2)]) hC dX9_readNot_43 rfl (by decide) rfl ?_
    refine r_aload_n hC dX9_readNot_44 rfl 1 rfl ?_
    refine r_getI hC clX9 17 4 rfl rfl (hC.n rfl) rfl lf_X9_41 dX9_readNot_45 ?_
    refine r_nmI (fun v5 => ?_)
    refine r_istore_n (lv' := [(3, .int v5), (2, .int v3), (0, .ref (wA w 17)), (1, .int a2)]) hC dX9_readNot_48 rfl (by decide) rfl ?_
    refine r_iload_n hC dX9_readNot_49 rfl 1 rfl ?_
    refine r_if_eq hC 82 dX9_readNot_50 (by decide) (fun c6 => ?_) (fun c6 => ?_)
    · refine r_iload_n hC dX9_readNot_82 rfl 1 rfl ?_
      refine r_gd (fun g7 => ?_)
      exact r_iret hC hret (by rcases g7 with h9 | h9 <;> rw [h9] <;> rfl) dX9_readNot_83
    · refine r_iload_n hC dX9_readNot_53 rfl 0 rfl ?_
      refine r_sipush (v := 20060) hC dX9_readNot_54 (by decide) ?_
      refine r_jn (T := fun (j8 : Option (Int32 × St)) => RF X w (Aw w (xs_ X).heap.size) 4 (QI X w) j8 67 [(0, .ref (wA w 17)), (1, .int a2), (3, .int v5)] [] σ4) ?_ (fun j8 hj8 => ?_)
      · refine r_aload_n hC dX9_readNot_67 rfl 0 rfl ?_
        refine r_callVV hC (b := 17) (ci := 9) (st := []) [] rfl (hC.n rfl) rfl rfl (c_X9_next hC.w σ4) yk_X9_next lm_X9_29 rfl ⟨Nat.ble_eq.mpr (by omega), Nat.ble_eq.mpr (by omega)⟩ rfl dX9_readNot_68 (fun σ9 => ?_)
        refine r_aload_n hC dX9_readNot_71 rfl 0 rfl ?_
        refine r_iload_n hC dX9_readNot_72 rfl 1 rfl ?_
        refine r_callVI hC (b := 17) (ci := 9) (st := []) [.int a2] rfl (hC.n rfl) rfl rfl (hr2 σ9 a2) yk_X9_readSum lm_X9_105 rfl ⟨Nat.ble_eq.mpr (by omega), Nat.ble_eq.mpr (by omega)⟩ rfl dX9_readNot_73 (fun v10 σ11 => ?_)
        refine r_istore_n (lv' := [(2, .int v10), (0, .ref (wA w 17)), (1, .int a2), (3, .int v5)]) hC dX9_readNot_76 rfl (by decide) rfl ?_
        refine r_aload_n hC dX9_readNot_77 rfl 1 rfl ?_
        refine r_iload_n hC dX9_readNot_78 rfl 3 rfl ?_
        refine r_callVV hC (b := 17) (ci := 9) (st := []) [.int v5] rfl (hC.n rfl) rfl rfl (c_X9_put hC.w σ11 v5) yk_X9_put lm_X9_98 rfl ⟨Nat.ble_eq.mpr (by omega), Nat.ble_eq.mpr (by omega)⟩ rfl dX9_readNot_79 (fun σ12 => ?_)
        refine r_iload_n hC dX9_readNot_82 rfl 0 rfl ?_
        refine r_gd (fun g13 => ?_)
        exact r_iret hC hret (by rcases g13 with h9 | h9 <;> rw [h9] <;> rfl) dX9_readNot_83
      · refine r_icmp_eq hC 67 dX9_readNot_57 (by decide) (fun c14 => ?_) (fun c14 => ?_)
        · exact r_lv [2, 3, 0] rfl hj8
        · refine r_iload_n hC dX9_readNot_60 rfl 0 rfl ?_
          refine r_sipush (v := 20061) hC dX9_readNot_61 (by decide) ?_
          refine r_icmp_ne hC 82 dX9_readNot_64 (by decide) (fun c15 => ?_) (fun c15 => ?_)
          · refine r_iload_n hC dX9_readNot_82 rfl 1 rfl ?_
            refine r_gd (fun g16 => ?_)
            exact r_iret hC hret (by rcases g16 with h9 | h9 <;> rw [h9] <;> rfl) dX9_readNot_83
          · exact r_lv [2, 3, 0] rfl hj8
  · refine r_iload_n hC dX9_readNot_10 rfl 1 rfl ?_
    refine r_iconst (v := 5) hC dX9_readNot_11 (by decide) ?_
    refine r_icmp_lt hC 17 dX9_readNot_12 (by decide) (fun c17 => ?_) (fun c17 => ?_)
    · refine r_aload_n hC dX9_readNot_17 rfl 0 rfl ?_
      refine r_callVV hC (b := 17) (ci := 9) (st := []) [] rfl (hC.n rfl) rfl rfl (c_X9_next hC.w σ) yk_X9_next lm_X9_29 rfl ⟨Nat.ble_eq.mpr (by omega), Nat.ble_eq.mpr (by omega)⟩ rfl dX9_readNot_18 (fun σ18 => ?_)
      refine r_aload_n hC dX9_readNot_21 rfl 0 rfl ?_
      refine r_iload_n hC dX9_readNot_22 rfl 1 rfl ?_
      refine r_iconst (v := 1) hC dX9_readNot_23 (by decide) ?_
      refine r_iadd hC dX9_readNot_24 ?_
      refine r_callVI hC (b := 17) (ci := 9) (st := []) [.int (a2 + 1)] rfl (hC.n rfl) rfl rfl (hr3 σ18 (a2 + 1)) yk_X9_readNot lm_X9_102 rfl ⟨Nat.ble_eq.mpr (by omega), Nat.ble_eq.mpr (by omega)⟩ rfl dX9_readNot_25 (fun v19 σ20 => ?_)
      refine r_istore_n (lv' := [(2, .int v19), (0, .ref (wA w 17)), (1, .int a2)]) hC dX9_readNot_28 rfl (by decide) rfl ?_
      refine r_aload_n hC dX9_readNot_29 rfl 1 rfl ?_
      refine r_sipush (v := 10010) hC dX9_readNot_30 (by decide) ?_
      refine r_callVV hC (b := 17) (ci := 9) (st := []) [.int 10010] rfl (hC.n rfl) rfl rfl (c_X9_put hC.w σ20 10010) yk_X9_put lm_X9_98 rfl ⟨Nat.ble_eq.mpr (by omega), Nat.ble_eq.mpr (by omega)⟩ rfl dX9_readNot_33 (fun σ21 => ?_)
      refine r_iload_n hC dX9_readNot_36 rfl 0 rfl ?_
      refine r_gd (fun g22 => ?_)
      exact r_iret hC hret (by rcases g22 with h9 | h9 <;> rw [h9] <;> rfl) dX9_readNot_37
    · refine r_iconst (v := 0) hC dX9_readNot_15 (by decide) ?_
      exact r_iret hC hret rfl dX9_readNot_16
set_option maxHeartbeats 4000000 in
set_option maxRecDepth 100000 in
theorem w_X9_readBoth_l8 {dd : Nat} {X : Mc} {w : Wd} (hC : Cok X w (Aw w (xs_ X).heap.size) yX9_readBoth.cls cX9_readBoth 4 (9 + (dd + 1)) (210 + 40 * (dd + 1)) shX rX 66) (hret : (xmeth X).sig.returnType = some .boolean) (rc : Nat → St → Int32 → Option (Int32 × St)) (a2 : Int32) (σ : St) (σ2 : St) (hr3 : ∀ (σ : St) (b1 : Int32) (res : (Int32 × St)), rc 3 σ b1 = some res → MtI X.2.1 yX9_readNot cX9_readNot 4 .boolean (9 + dd) (210 + 40 * dd) w [.ref (wA w 17), .int b1] σ res)    : ∀ (n : Nat) (x3 : Int32) (x4 : Int32) (σ5 : St), RF X w (Aw w (xs_ X).heap.size) 4 (QI X w) (f_X9_readBoth_l8 rc a2 n x3 x4 σ5) 8 [(0, .ref (wA w 17)), (1, .int a2), (2, .int x3), (3, .int x4)] [] σ5 := by
  intro n
  induction n with
  | zero => intro x3 x4 σ5; rw [f_X9_readBoth_l8]; exact r_none
  | succ n ih =>
    intro x3 x4 σ5
    rw [f_X9_readBoth_l8]
    refine r_iload_n hC dX9_readBoth_8 rfl 3 rfl ?_
    refine r_sipush (v := 160) hC dX9_readBoth_9 (by decide) ?_
    refine r_icmp_ge hC 52 dX9_readBoth_12 (by decide) (fun c6 => ?_) (fun c6 => ?_)
    · refine r_iload_n hC dX9_readBoth_52 rfl 2 rfl ?_
      refine r_gd (fun g7 => ?_)
      exact r_iret hC hret (by rcases g7 with h9 | h9 <;> rw [h9] <;> rfl) dX9_readBoth_53
    · refine r_iload_n hC dX9_readBoth_15 rfl 2 rfl ?_
      refine r_if_eq hC 52 dX9_readBoth_16 (by decide) (fun c8 => ?_) (fun c8 => ?_)
      · refine r_iload_n hC dX9_readBoth_52 rfl 2 rfl ?_
        refine r_gd (fun g9 => ?_)
        exact r_iret hC hret (by rcases g9 with h9 | h9 <;> rw [h9] <;> rfl) dX9_readBoth_53
      · refine r_aload_n hC dX9_readBoth_19 rfl 0 rfl ?_
        refine r_getI hC clX9 17 4 rfl rfl (hC.n rfl) rfl lf_X9_41 dX9_readBoth_20 ?_
        refine r_nmI (fun v10 => ?_)
        refine r_sipush (v := 10009) hC dX9_readBoth_23 (by decide) ?_
        refine r_icmp_ne hC 52 dX9_readBoth_26 (by decide) (fun c11 => ?_) (fun c11 => ?_)
        · refine r_iload_n hC dX9_readBoth_52 rfl 2 rfl ?_
          refine r_gd (fun g12 => ?_)
          exact r_iret hC hret (by rcases g12 with h9 | h9 <;> rw [h9] <;> rfl) dX9_readBoth_53
        · refine r_aload_n hC dX9_readBoth_29 rfl 0 rfl ?_
          refine r_callVV hC (b := 17) (ci := 9) (st := []) [] rfl (hC.n rfl) rfl rfl (c_X9_next hC.w σ5) yk_X9_next lm_X9_29 rfl ⟨Nat.ble_eq.mpr (by omega), Nat.ble_eq.mpr (by omega)⟩ rfl dX9_readBoth_30 (fun σ13 => ?_)
          refine r_aload_n hC dX9_readBoth_33 rfl 0 rfl ?_
          refine r_iload_n hC dX9_readBoth_34 rfl 1 rfl ?_
          refine r_callVI hC (b := 17) (ci := 9) (st := []) [.int a2] rfl (hC.n rfl) rfl rfl (hr3 σ13 a2) yk_X9_readNot lm_X9_102 rfl ⟨Nat.ble_eq.mpr (by omega), Nat.ble_eq.mpr (by omega)⟩ rfl dX9_readBoth_35 (fun v14 σ15 => ?_)
          refine r_istore_n (lv' := [(2, .int v14), (0, .ref (wA w 17)), (1, .int a2), (3, .int x4)]) hC dX9_readBoth_38 rfl (by decide) rfl ?_
          refine r_aload_n hC dX9_readBoth_39 rfl 1 rfl ?_
          refine r_sipush (v := 10009) hC dX9_readBoth_40 (by decide) ?_
          refine r_callVV hC (b := 17) (ci := 9) (st := []) [.int 10009] rfl (hC.n rfl) rfl rfl (c_X9_put hC.w σ15 10009) yk_X9_put lm_X9_98 rfl ⟨Nat.ble_eq.mpr (by omega), Nat.ble_eq.mpr (by omega)⟩ rfl dX9_readBoth_43 (fun σ16 => ?_)
          refine r_iinc (v := x4 + 1) (lv' := [(3, .int (x4 + 1)), (2, .int v14), (0, .ref (wA w 17)), (1, .int a2)]) hC dX9_readBoth_46 3 rfl rfl (by decide) rfl ?_
          refine r_goto hC 8 dX9_readBoth_49 (by decide) ?_
          exact r_lv [2, 3, 1, 0] rfl (ih v14 (x4 + 1) σ16)
set_option maxHeartbeats 4000000 in
set_option maxRecDepth 100000 in
theorem cb_X9_readBoth {l : Launch} {w : Wd} (hW : HWd w shX rX 66) (dd : Nat) (rc : Nat → St → Int32 → Option (Int32 × St)) (hr3 : ∀ (σ : St) (b1 : Int32) (res : (Int32 × St)), rc 3 σ b1 = some res → MtI l yX9_readNot cX9_readNot 4 .boolean (9 + dd) (210 + 40 * dd) w [.ref (wA w 17), .int b1] σ res) (σ : St) (a2 : Int32) : ∀ res, fb_X9_readBoth rc σ a2 = some res → MtI l yX9_readBoth cX9_readBoth 4 .boolean (9 + (dd + 1)) (210 + 40 * (dd + 1)) w [.ref (wA w 17), .int a2] σ res := by
  refine mt_I (by decide) rfl hW (fun X hl0 hC hret => ?_)
  subst hl0
  show RF X w (Aw w (xs_ X).heap.size) 4 (QI X w) (fb_X9_readBoth rc σ a2) 0 [(0, .ref (wA w 17)), (1, .int a2)] [] σ
  unfold fb_X9_readBoth
  refine r_aload_n hC dX9_readBoth_0 rfl 0 rfl ?_
  refine r_iload_n hC dX9_readBoth_1 rfl 1 rfl ?_
  refine r_callVI hC (b := 17) (ci := 9) (st := []) [.int a2] rfl (hC.n rfl) rfl rfl (hr3 σ a2) yk_X9_readNot lm_X9_102 rfl ⟨Nat.ble_eq.mpr (by omega), Nat.ble_eq.mpr (by omega)⟩ rfl dX9_readBoth_2 (fun v1 σ2 => ?_)
  refine r_istore_n (lv' := [(2, .int v1), (0, .ref (wA w 17)), (1, .int a2)]) hC dX9_readBoth_5 rfl (by decide) rfl ?_
  refine r_iconst (v := 0) hC dX9_readBoth_6 (by decide) ?_
  refine r_istore_n (lv' := [(3, .int 0), (2, .int v1), (0, .ref (wA w 17)), (1, .int a2)]) hC dX9_readBoth_7 rfl (by decide) rfl ?_
  refine r_lv [2, 3, 1, 0] rfl ?_
  exact w_X9_readBoth_l8 hC hret rc a2 σ σ2 hr3 FU v1 0 σ2
set_option maxHeartbeats 4000000 in
set_option maxRecDepth 100000 in
theorem w_X9_readEither_l8 {dd : Nat} {X : Mc} {w : Wd} (hC : Cok X w (Aw w (xs_ X).heap.size) yX9_readEither.cls cX9_readEither 4 (9 + (dd + 1)) (210 + 40 * (dd + 1)) shX rX 66) (hret : (xmeth X).sig.returnType = some .boolean) (rc : Nat → St → Int32 → Option (Int32 × St)) (a2 : Int32) (σ : St) (σ2 : St) (hr4 : ∀ (σ : St) (b1 : Int32) (res : (Int32 × St)), rc 4 σ b1 = some res → MtI X.2.1 yX9_readBoth cX9_readBoth 4 .boolean (9 + dd) (210 + 40 * dd) w [.ref (wA w 17), .int b1] σ res)    : ∀ (n : Nat) (x3 : Int32) (x4 : Int32) (σ5 : St), RF X w (Aw w (xs_ X).heap.size) 4 (QI X w) (f_X9_readEither_l8 rc a2 n x3 x4 σ5) 8 [(0, .ref (wA w 17)), (1, .int a2), (2, .int x3), (3, .int x4)] [] σ5 := by
  intro n
  induction n with
  | zero => intro x3 x4 σ5; rw [f_X9_readEither_l8]; exact r_none
  | succ n ih =>
    intro x3 x4 σ5
    rw [f_X9_readEither_l8]
    refine r_iload_n hC dX9_readEither_8 rfl 3 rfl ?_
    refine r_sipush (v := 160) hC dX9_readEither_9 (by decide) ?_
    refine r_icmp_ge hC 52 dX9_readEither_12 (by decide) (fun c6 => ?_) (fun c6 => ?_)
    · refine r_iload_n hC dX9_readEither_52 rfl 2 rfl ?_
      refine r_gd (fun g7 => ?_)
      exact r_iret hC hret (by rcases g7 with h9 | h9 <;> rw [h9] <;> rfl) dX9_readEither_53
    · refine r_iload_n hC dX9_readEither_15 rfl 2 rfl ?_
      refine r_if_eq hC 52 dX9_readEither_16 (by decide) (fun c8 => ?_) (fun c8 => ?_)
      · refine r_iload_n hC dX9_readEither_52 rfl 2 rfl ?_
        refine r_gd (fun g9 => ?_)
        exact r_iret hC hret (by rcases g9 with h9 | h9 <;> rw [h9] <;> rfl) dX9_readEither_53
      · refine r_aload_n hC dX9_readEither_19 rfl 0 rfl ?_
        refine r_getI hC clX9 17 4 rfl rfl (hC.n rfl) rfl lf_X9_41 dX9_readEither_20 ?_
        refine r_nmI (fun v10 => ?_)
        refine r_sipush (v := 10008) hC dX9_readEither_23 (by decide) ?_
        refine r_icmp_ne hC 52 dX9_readEither_26 (by decide) (fun c11 => ?_) (fun c11 => ?_)
        · refine r_iload_n hC dX9_readEither_52 rfl 2 rfl ?_
          refine r_gd (fun g12 => ?_)
          exact r_iret hC hret (by rcases g12 with h9 | h9 <;> rw [h9] <;> rfl) dX9_readEither_53
        · refine r_aload_n hC dX9_readEither_29 rfl 0 rfl ?_
          refine r_callVV hC (b := 17) (ci := 9) (st := []) [] rfl (hC.n rfl) rfl rfl (c_X9_next hC.w σ5) yk_X9_next lm_X9_29 rfl ⟨Nat.ble_eq.mpr (by omega), Nat.ble_eq.mpr (by omega)⟩ rfl dX9_readEither_30 (fun σ13 => ?_)
          refine r_aload_n hC dX9_readEither_33 rfl 0 rfl ?_
          refine r_iload_n hC dX9_readEither_34 rfl 1 rfl ?_
          refine r_callVI hC (b := 17) (ci := 9) (st := []) [.int a2] rfl (hC.n rfl) rfl rfl (hr4 σ13 a2) yk_X9_readBoth lm_X9_95 rfl ⟨Nat.ble_eq.mpr (by omega), Nat.ble_eq.mpr (by omega)⟩ rfl dX9_readEither_35 (fun v14 σ15 => ?_)
          refine r_istore_n (lv' := [(2, .int v14), (0, .ref (wA w 17)), (1, .int a2), (3, .int x4)]) hC dX9_readEither_38 rfl (by decide) rfl ?_
          refine r_aload_n hC dX9_readEither_39 rfl 1 rfl ?_
          refine r_sipush (v := 10008) hC dX9_readEither_40 (by decide) ?_
          refine r_callVV hC (b := 17) (ci := 9) (st := []) [.int 10008] rfl (hC.n rfl) rfl rfl (c_X9_put hC.w σ15 10008) yk_X9_put lm_X9_98 rfl ⟨Nat.ble_eq.mpr (by omega), Nat.ble_eq.mpr (by omega)⟩ rfl dX9_readEither_43 (fun σ16 => ?_)
          refine r_iinc (v := x4 + 1) (lv' := [(3, .int (x4 + 1)), (2, .int v14), (0, .ref (wA w 17)), (1, .int a2)]) hC dX9_readEither_46 3 rfl rfl (by decide) rfl ?_
          refine r_goto hC 8 dX9_readEither_49 (by decide) ?_
          exact r_lv [2, 3, 1, 0] rfl (ih v14 (x4 + 1) σ16)
set_option maxHeartbeats 4000000 in
set_option maxRecDepth 100000 in
theorem cb_X9_readEither {l : Launch} {w : Wd} (hW : HWd w shX rX 66) (dd : Nat) (rc : Nat → St → Int32 → Option (Int32 × St)) (hr4 : ∀ (σ : St) (b1 : Int32) (res : (Int32 × St)), rc 4 σ b1 = some res → MtI l yX9_readBoth cX9_readBoth 4 .boolean (9 + dd) (210 + 40 * dd) w [.ref (wA w 17), .int b1] σ res) (σ : St) (a2 : Int32) : ∀ res, fb_X9_readEither rc σ a2 = some res → MtI l yX9_readEither cX9_readEither 4 .boolean (9 + (dd + 1)) (210 + 40 * (dd + 1)) w [.ref (wA w 17), .int a2] σ res := by
  refine mt_I (by decide) rfl hW (fun X hl0 hC hret => ?_)
  subst hl0
  show RF X w (Aw w (xs_ X).heap.size) 4 (QI X w) (fb_X9_readEither rc σ a2) 0 [(0, .ref (wA w 17)), (1, .int a2)] [] σ
  unfold fb_X9_readEither
  refine r_aload_n hC dX9_readEither_0 rfl 0 rfl ?_
  refine r_iload_n hC dX9_readEither_1 rfl 1 rfl ?_
  refine r_callVI hC (b := 17) (ci := 9) (st := []) [.int a2] rfl (hC.n rfl) rfl rfl (hr4 σ a2) yk_X9_readBoth lm_X9_95 rfl ⟨Nat.ble_eq.mpr (by omega), Nat.ble_eq.mpr (by omega)⟩ rfl dX9_readEither_2 (fun v1 σ2 => ?_)
  refine r_istore_n (lv' := [(2, .int v1), (0, .ref (wA w 17)), (1, .int a2)]) hC dX9_readEither_5 rfl (by decide) rfl ?_
  refine r_iconst (v := 0) hC dX9_readEither_6 (by decide) ?_
  refine r_istore_n (lv' := [(3, .int 0), (2, .int v1), (0, .ref (wA w 17)), (1, .int a2)]) hC dX9_readEither_7 rfl (by decide) rfl ?_
  refine r_lv [2, 3, 1, 0] rfl ?_
  exact w_X9_readEither_l8 hC hret rc a2 σ σ2 hr4 FU v1 0 σ2
set_option maxHeartbeats 4000000 in
theorem c_GT {l : Launch} {w : Wd} (hW : HWd w shX rX 66) : ∀ d : Nat, (∀ (σ : St) (b1 : Int32) (res : (Int32 × St)), f_GT d 0 σ b1 = some res → MtI l yX9_readOne cX9_readOne 3 .boolean (9 + d) (210 + 40 * d) w [.ref (wA w 17), .int b1] σ res) ∧ (∀ (σ : St) (b1 : Int32) (res : (Int32 × St)), f_GT d 1 σ b1 = some res → MtI l yX9_readTerm cX9_readTerm 4 .boolean (9 + d) (210 + 40 * d) w [.ref (wA w 17), .int b1] σ res) ∧ (∀ (σ : St) (b1 : Int32) (res : (Int32 × St)), f_GT d 2 σ b1 = some res → MtI l yX9_readSum cX9_readSum 5 .boolean (9 + d) (210 + 40 * d) w [.ref (wA w 17), .int b1] σ res) ∧ (∀ (σ : St) (b1 : Int32) (res : (Int32 × St)), f_GT d 3 σ b1 = some res → MtI l yX9_readNot cX9_readNot 4 .boolean (9 + d) (210 + 40 * d) w [.ref (wA w 17), .int b1] σ res) ∧ (∀ (σ : St) (b1 : Int32) (res : (Int32 × St)), f_GT d 4 σ b1 = some res → MtI l yX9_readBoth cX9_readBoth 4 .boolean (9 + d) (210 + 40 * d) w [.ref (wA w 17), .int b1] σ res) ∧ (∀ (σ : St) (b1 : Int32) (res : (Int32 × St)), f_GT d 5 σ b1 = some res → MtI l yX9_readEither cX9_readEither 4 .boolean (9 + d) (210 + 40 * d) w [.ref (wA w 17), .int b1] σ res) := by
  intro d
  induction d with
  | zero => exact ⟨fun σ b1 res h => (by rw [f_GT] at h; cases h), fun σ b1 res h => (by rw [f_GT] at h; cases h), fun σ b1 res h => (by rw [f_GT] at h; cases h), fun σ b1 res h => (by rw [f_GT] at h; cases h), fun σ b1 res h => (by rw [f_GT] at h; cases h), fun σ b1 res h => (by rw [f_GT] at h; cases h)⟩
  | succ d ih =>
    obtain ⟨i0, i1, i2, i3, i4, i5⟩ := ih
    exact ⟨fun σ b1 res h => cb_X9_readOne hW d (f_GT d) i0 i5 σ b1 res h, fun σ b1 res h => cb_X9_readTerm hW d (f_GT d) i0 σ b1 res h, fun σ b1 res h => cb_X9_readSum hW d (f_GT d) i1 σ b1 res h, fun σ b1 res h => cb_X9_readNot hW d (f_GT d) i2 i3 σ b1 res h, fun σ b1 res h => cb_X9_readBoth hW d (f_GT d) i3 σ b1 res h, fun σ b1 res h => cb_X9_readEither hW d (f_GT d) i4 σ b1 res h⟩
set_option maxHeartbeats 4000000 in
set_option maxRecDepth 100000 in
theorem c_X9_findFault {l : Launch} {w : Wd} (hW : HWd w shX rX 66) (σ : St)   : ∀ res, f_X9_findFault σ = some res → MtI l yX9_findFault cX9_findFault 2 .int 74 2793 w [.ref (wA w 17)] σ res := by
  refine mt_I (by decide) rfl hW (fun X hl0 hC hret => ?_)
  show RF X w (Aw w (xs_ X).heap.size) 2 (QI X w) (f_X9_findFault σ) 0 [(0, .ref (wA w 17))] [] σ
  unfold f_X9_findFault
  refine r_aload_n hC dX9_findFault_0 rfl 0 rfl ?_
  refine r_iconst (v := 0) hC dX9_findFault_1 (by decide) ?_
  refine r_putI hC clX9 17 2 rfl rfl rfl (hC.n rfl) rfl rfl lf_X9_19 dX9_findFault_2 ?_
  refine r_nmS (fun σ1 => ?_)
  refine r_aload_n hC dX9_findFault_5 rfl 0 rfl ?_
  refine r_iconst (v := 0) hC dX9_findFault_6 (by decide) ?_
  refine r_putI hC clX9 17 3 rfl rfl rfl (hC.n rfl) rfl rfl lf_X9_23 dX9_findFault_7 ?_
  refine r_nmS (fun σ2 => ?_)
  refine r_aload_n hC dX9_findFault_10 rfl 0 rfl ?_
  refine r_iconst (v := 0) hC dX9_findFault_11 (by decide) ?_
  refine r_putI hC clX9 17 6 rfl rfl rfl (hC.n rfl) rfl rfl lf_X9_26 dX9_findFault_12 ?_
  refine r_nmS (fun σ3 => ?_)
  refine r_aload_n hC dX9_findFault_15 rfl 0 rfl ?_
  refine r_callVV hC (b := 17) (ci := 9) (st := []) [] rfl (hC.n rfl) rfl rfl (c_X9_next hC.w σ3) yk_X9_next lm_X9_29 rfl ⟨rfl, rfl⟩ rfl dX9_findFault_16 (fun σ4 => ?_)
  refine r_aload_n hC dX9_findFault_19 rfl 0 rfl ?_
  refine r_sipush (v := 10006) hC dX9_findFault_20 (by decide) ?_
  refine r_callVI hC (b := 17) (ci := 9) (st := []) [.int 10006] rfl (hC.n rfl) rfl rfl (c_X9_take hC.w σ4 10006) yk_X9_take lm_X9_34 rfl ⟨rfl, rfl⟩ rfl dX9_findFault_23 (fun v5 σ6 => ?_)
  refine r_jn (T := fun (j9 : Int32 → St → Option (Int32 × St)) => ∀ (t7 : Int32) (σ8 : St), RF X w (Aw w (xs_ X).heap.size) 2 (QI X w) (j9 t7 σ8) 52 [(0, .ref (wA w 17))] [.int t7] σ8) ?_ (fun j9 hj9 => ?_)
  · intro t7 σ8
    refine r_istore_n (lv' := [(1, .int t7), (0, .ref (wA w 17))]) hC dX9_findFault_52 rfl (by decide) rfl ?_
    refine r_aload_n hC dX9_findFault_53 rfl 1 rfl ?_
    refine r_aload_n hC dX9_findFault_54 rfl 1 rfl ?_
    refine r_getI hC clX9 17 2 rfl rfl (hC.n rfl) rfl lf_X9_19 dX9_findFault_55 ?_
    refine r_nmI (fun v10 => ?_)
    refine r_putI hC clX9 17 3 rfl rfl rfl (hC.n rfl) rfl rfl lf_X9_23 dX9_findFault_58 ?_
    refine r_nmS (fun σ11 => ?_)
    refine r_iload_n hC dX9_findFault_61 rfl 0 rfl ?_
    refine r_jn (T := fun (j14 : Int32 → St → Option (Int32 × St)) => ∀ (t12 : Int32) (σ13 : St), RF X w (Aw w (xs_ X).heap.size) 2 (QI X w) (j14 t12 σ13) 98 [(0, .ref (wA w 17))] [.int t12] σ13) ?_ (fun j14 hj14 => ?_)
    · intro t12 σ13
      refine r_istore_n (lv' := [(1, .int t12), (0, .ref (wA w 17))]) hC dX9_findFault_98 rfl (by decide) rfl ?_
      refine r_iload_n hC dX9_findFault_99 rfl 0 rfl ?_
      refine r_jn (T := fun (j15 : Option (Int32 × St)) => RF X w (Aw w (xs_ X).heap.size) 2 (QI X w) j15 115 [(0, .ref (wA w 17))] [] σ13) ?_ (fun j15 hj15 => ?_)
      · refine r_aload_n hC dX9_findFault_115 rfl 0 rfl ?_
        refine r_getI hC clX9 17 5 rfl rfl (hC.n rfl) rfl lf_X9_44 dX9_findFault_116 ?_
        refine r_nmI (fun v16 => ?_)
        exact r_iret hC hret rfl dX9_findFault_119
      · refine r_if_eq hC 115 dX9_findFault_100 (by decide) (fun c17 => ?_) (fun c17 => ?_)
        · exact r_lv [1] rfl hj15
        · refine r_aload_n hC dX9_findFault_103 rfl 1 rfl ?_
          refine r_getI hC clX9 17 4 rfl rfl (hC.n rfl) rfl lf_X9_41 dX9_findFault_104 ?_
          refine r_nmI (fun v18 => ?_)
          refine r_iconst (v := (-1)) hC dX9_findFault_107 (by decide) ?_
          refine r_icmp_ne hC 115 dX9_findFault_108 (by decide) (fun c19 => ?_) (fun c19 => ?_)
          · exact r_lv [1] rfl hj15
          · refine r_iconst (v := (-1)) hC dX9_findFault_111 (by decide) ?_
            refine r_goto hC 119 dX9_findFault_112 (by decide) ?_
            exact r_iret hC hret rfl dX9_findFault_119
    · refine r_jn (T := fun (j21 : St → Option (Int32 × St)) => ∀ (σ20 : St), RF X w (Aw w (xs_ X).heap.size) 2 (QI X w) (j21 σ20) 97 [(0, .ref (wA w 17))] [] σ20) ?_ (fun j21 hj21 => ?_)
      · intro σ20
        refine r_iconst (v := 0) hC dX9_findFault_97 (by decide) ?_
        exact r_lv [0] rfl (hj14 0 σ20)
      · refine r_if_eq hC 97 dX9_findFault_62 (by decide) (fun c22 => ?_) (fun c22 => ?_)
        · exact r_lv [1] rfl (hj21 σ11)
        · refine r_aload_n hC dX9_findFault_65 rfl 1 rfl ?_
          refine r_sipush (v := 10007) hC dX9_findFault_66 (by decide) ?_
          refine r_callVI hC (b := 17) (ci := 9) (st := []) [.int 10007] rfl (hC.n rfl) rfl rfl (c_X9_take hC.w σ11 10007) yk_X9_take lm_X9_34 rfl ⟨rfl, rfl⟩ rfl dX9_findFault_69 (fun v23 σ24 => ?_)
          refine r_if_eq hC 97 dX9_findFault_72 (by decide) (fun c25 => ?_) (fun c25 => ?_)
          · exact r_lv [1] rfl (hj21 σ24)
          · refine r_aload_n hC dX9_findFault_75 rfl 1 rfl ?_
            refine r_iconst (v := 0) hC dX9_findFault_76 (by decide) ?_
            refine r_callVI hC (b := 17) (ci := 9) (st := []) [.int 0] rfl (hC.n rfl) rfl rfl ((c_GT hC.w 64).2.2.2.2.2 σ24 0) yk_X9_readEither lm_X9_38 rfl ⟨rfl, rfl⟩ rfl dX9_findFault_77 (fun v26 σ27 => ?_)
            refine r_if_eq hC 97 dX9_findFault_80 (by decide) (fun c28 => ?_) (fun c28 => ?_)
            · exact r_lv [1] rfl (hj21 σ27)
            · refine r_aload_n hC dX9_findFault_83 rfl 1 rfl ?_
              refine r_sipush (v := 20059) hC dX9_findFault_84 (by decide) ?_
              refine r_callVI hC (b := 17) (ci := 9) (st := []) [.int 20059] rfl (hC.n rfl) rfl rfl (c_X9_take hC.w σ27 20059) yk_X9_take lm_X9_34 rfl ⟨rfl, rfl⟩ rfl dX9_findFault_87 (fun v29 σ30 => ?_)
              refine r_if_eq hC 97 dX9_findFault_90 (by decide) (fun c31 => ?_) (fun c31 => ?_)
              · exact r_lv [1] rfl (hj21 σ30)
              · refine r_iconst (v := 1) hC dX9_findFault_93 (by decide) ?_
                refine r_goto hC 98 dX9_findFault_94 (by decide) ?_
                exact r_lv [1] rfl (hj14 1 σ30)
  · refine r_jn (T := fun (j33 : St → Option (Int32 × St)) => ∀ (σ32 : St), RF X w (Aw w (xs_ X).heap.size) 2 (QI X w) (j33 σ32) 51 [(0, .ref (wA w 17))] [] σ32) ?_ (fun j33 hj33 => ?_)
    · intro σ32
      refine r_iconst (v := 0) hC dX9_findFault_51 (by decide) ?_
      exact r_lv [0] rfl (hj9 0 σ32)
    · refine r_if_eq hC 51 dX9_findFault_26 (by decide) (fun c34 => ?_) (fun c34 => ?_)
      · exact r_lv [0] rfl (hj33 σ6)
      · refine r_aload_n hC dX9_findFault_29 rfl 0 rfl ?_
        refine r_iconst (v := 0) hC dX9_findFault_30 (by decide) ?_
        refine r_callVI hC (b := 17) (ci := 9) (st := []) [.int 0] rfl (hC.n rfl) rfl rfl ((c_GT hC.w 64).2.2.2.2.2 σ6 0) yk_X9_readEither lm_X9_38 rfl ⟨rfl, rfl⟩ rfl dX9_findFault_31 (fun v35 σ36 => ?_)
        refine r_if_eq hC 51 dX9_findFault_34 (by decide) (fun c37 => ?_) (fun c37 => ?_)
        · exact r_lv [0] rfl (hj33 σ36)
        · refine r_aload_n hC dX9_findFault_37 rfl 0 rfl ?_
          refine r_sipush (v := 20059) hC dX9_findFault_38 (by decide) ?_
          refine r_callVI hC (b := 17) (ci := 9) (st := []) [.int 20059] rfl (hC.n rfl) rfl rfl (c_X9_take hC.w σ36 20059) yk_X9_take lm_X9_34 rfl ⟨rfl, rfl⟩ rfl dX9_findFault_41 (fun v38 σ39 => ?_)
          refine r_if_eq hC 51 dX9_findFault_44 (by decide) (fun c40 => ?_) (fun c40 => ?_)
          · exact r_lv [0] rfl (hj33 σ39)
          · refine r_iconst (v := 1) hC dX9_findFault_47 (by decide) ?_
            refine r_goto hC 52 dX9_findFault_48 (by decide) ?_
            exact r_lv [0] rfl (hj9 1 σ39)
