theorem wa_int : Cond.arrayClass .int ∈ gw := gw_t1 62 rfl rfl
theorem wa_byte : Cond.arrayClass .byte ∈ gw := gw_t1 111 rfl rfl
theorem wa_long : Cond.arrayClass .long ∈ gw := gw_t5 200 rfl rfl
theorem wa_boolean : Cond.arrayClass .boolean ∈ gw := gw_t5 201 rfl rfl
theorem lm_X2_3 : Cond.methodLink RX2 3 objectInit ∈ gw := gw_t1 36 rfl rfl
theorem wo_1 : Cond.instanceMethod objectInit ∈ gw := gw_t1 29 rfl rfl
theorem wo_2 : Cond.code objectInit ⟨#[0xb1]⟩ 1 none ∈ gw := gw_t1 30 rfl rfl
theorem lm_X5_3 : Cond.methodLink RX5 3 objectInit ∈ gw := gw_t2 34 rfl rfl
theorem lm_X8_3 : Cond.methodLink RX8 3 objectInit ∈ gw := gw_t1 100 rfl rfl
theorem lm_X9_3 : Cond.methodLink RX9 3 objectInit ∈ gw := gw_t1 117 rfl rfl
theorem lm_X1_3 : Cond.methodLink RX1 3 objectInit ∈ gw := gw_t1 183 rfl rfl
theorem lm_X4_3 : Cond.methodLink RX4 3 objectInit ∈ gw := gw_t1 159 rfl rfl
theorem lk_X4_11 : Cond.classLink RX4 11 "[[I" ∈ gw := gw_t1 160 rfl rfl
theorem lm_X7_1 : Cond.methodLink RX7 1 objectInit ∈ gw := gw_t2 48 rfl rfl
theorem lk_X7_16 : Cond.classLink RX7 16 "[[I" ∈ gw := gw_t2 49 rfl rfl
theorem lm_X10_3 : Cond.methodLink RX10 3 objectInit ∈ gw := gw_t2 1 rfl rfl
theorem lk_X10_24 : Cond.classLink RX10 24 "[[I" ∈ gw := gw_t2 2 rfl rfl
theorem lm_X6_3 : Cond.methodLink RX6 3 objectInit ∈ gw := gw_t1 146 rfl rfl
theorem lc_X12_100 : Cond.constantLong RX12 100 7451617235168554866 ∈ gw := gw_t5 1 rfl rfl
theorem lm_X12_102 : Cond.methodLink RX12 102 yX12_spell ∈ gw := gw_t5 2 rfl rfl
theorem yk_X12_spell : YV yX12_spell cX12_spell 5 none 2 := ⟨gw_t5 5 rfl rfl, gw_t5 4 rfl rfl, gw_s 24 rfl, gw_t1 12 rfl rfl, by decide +kernel⟩
theorem lc_X12_106 : Cond.constantLong RX12 106 7162166152001971553 ∈ gw := gw_t5 7 rfl rfl
theorem lc_X12_108 : Cond.constantLong RX12 108 8223637929888735591 ∈ gw := gw_t5 8 rfl rfl
theorem lc_X12_110 : Cond.constantLong RX12 110 2338336212330487850 ∈ gw := gw_t5 9 rfl rfl
theorem lc_X12_112 : Cond.constantLong RX12 112 2319952196363362336 ∈ gw := gw_t5 10 rfl rfl
theorem dX0_init_0 : decode cX0_init 0 = .ok (.aload_n 0, 1) := by decide +kernel
theorem dX0_init_1 : decode cX0_init 1 = .ok (.invokespecial 3, 3) := by decide +kernel
theorem dX0_init_4 : decode cX0_init 4 = .ok (.aload_n 0, 1) := by decide +kernel
theorem dX0_init_5 : decode cX0_init 5 = .ok (.bipush 8, 2) := by decide +kernel
theorem dX0_init_7 : decode cX0_init 7 = .ok (.newarray .int, 2) := by decide +kernel
theorem dX0_init_9 : decode cX0_init 9 = .ok (.putfield 9, 3) := by decide +kernel
theorem dX0_init_12 : decode cX0_init 12 = .ok (.aload_n 0, 1) := by decide +kernel
theorem dX0_init_13 : decode cX0_init 13 = .ok (.bipush 8, 2) := by decide +kernel
theorem dX0_init_15 : decode cX0_init 15 = .ok (.newarray .int, 2) := by decide +kernel
theorem dX0_init_17 : decode cX0_init 17 = .ok (.putfield 15, 3) := by decide +kernel
theorem dX0_init_20 : decode cX0_init 20 = .ok (.aload_n 0, 1) := by decide +kernel
theorem dX0_init_21 : decode cX0_init 21 = .ok (.bipush 8, 2) := by decide +kernel
theorem dX0_init_23 : decode cX0_init 23 = .ok (.newarray .int, 2) := by decide +kernel
theorem dX0_init_25 : decode cX0_init 25 = .ok (.putfield 18, 3) := by decide +kernel
theorem dX0_init_28 : decode cX0_init 28 = .ok (.aload_n 0, 1) := by decide +kernel
theorem dX0_init_29 : decode cX0_init 29 = .ok (.bipush 20, 2) := by decide +kernel
theorem dX0_init_31 : decode cX0_init 31 = .ok (.putfield 21, 3) := by decide +kernel
theorem dX0_init_34 : decode cX0_init 34 = .ok (.iconst 0, 1) := by decide +kernel
theorem dX0_init_35 : decode cX0_init 35 = .ok (.istore_n 1, 1) := by decide +kernel
theorem dX0_init_36 : decode cX0_init 36 = .ok (.iload_n 1, 1) := by decide +kernel
theorem dX0_init_37 : decode cX0_init 37 = .ok (.bipush 8, 2) := by decide +kernel
theorem dX0_init_39 : decode cX0_init 39 = .ok (.if_icmp .ge 32, 3) := by decide +kernel
theorem dX0_init_42 : decode cX0_init 42 = .ok (.aload_n 0, 1) := by decide +kernel
theorem dX0_init_43 : decode cX0_init 43 = .ok (.getfield 9, 3) := by decide +kernel
theorem dX0_init_46 : decode cX0_init 46 = .ok (.iload_n 1, 1) := by decide +kernel
theorem dX0_init_47 : decode cX0_init 47 = .ok (.iconst (-1), 1) := by decide +kernel
theorem dX0_init_48 : decode cX0_init 48 = .ok (.iastore, 1) := by decide +kernel
theorem dX0_init_49 : decode cX0_init 49 = .ok (.aload_n 0, 1) := by decide +kernel
theorem dX0_init_50 : decode cX0_init 50 = .ok (.getfield 15, 3) := by decide +kernel
theorem dX0_init_53 : decode cX0_init 53 = .ok (.iload_n 1, 1) := by decide +kernel
theorem dX0_init_54 : decode cX0_init 54 = .ok (.iload_n 1, 1) := by decide +kernel
theorem dX0_init_55 : decode cX0_init 55 = .ok (.iconst 2, 1) := by decide +kernel
theorem dX0_init_56 : decode cX0_init 56 = .ok (.irem, 1) := by decide +kernel
theorem dX0_init_57 : decode cX0_init 57 = .ok (.iastore, 1) := by decide +kernel
theorem dX0_init_58 : decode cX0_init 58 = .ok (.aload_n 0, 1) := by decide +kernel
theorem dX0_init_59 : decode cX0_init 59 = .ok (.getfield 18, 3) := by decide +kernel
theorem dX0_init_62 : decode cX0_init 62 = .ok (.iload_n 1, 1) := by decide +kernel
theorem dX0_init_63 : decode cX0_init 63 = .ok (.iconst 4, 1) := by decide +kernel
theorem dX0_init_64 : decode cX0_init 64 = .ok (.iastore, 1) := by decide +kernel
theorem dX0_init_65 : decode cX0_init 65 = .ok (.iinc 1 1, 3) := by decide +kernel
theorem dX0_init_68 : decode cX0_init 68 = .ok (.goto (-32), 3) := by decide +kernel
theorem dX0_init_71 : decode cX0_init 71 = .ok (.return_, 1) := by decide +kernel
theorem dX12_init_0 : decode cX12_init 0 = .ok (.aload_n 0, 1) := by decide +kernel
theorem dX12_init_1 : decode cX12_init 1 = .ok (.invokespecial 7, 3) := by decide +kernel
theorem dX12_init_4 : decode cX12_init 4 = .ok (.aload_n 0, 1) := by decide +kernel
theorem dX12_init_5 : decode cX12_init 5 = .ok (.sipush 960, 3) := by decide +kernel
theorem dX12_init_8 : decode cX12_init 8 = .ok (.newarray .int, 2) := by decide +kernel
theorem dX12_init_10 : decode cX12_init 10 = .ok (.putfield 13, 3) := by decide +kernel
theorem dX12_init_13 : decode cX12_init 13 = .ok (.aload_n 0, 1) := by decide +kernel
theorem dX12_init_14 : decode cX12_init 14 = .ok (.bipush 6, 2) := by decide +kernel
theorem dX12_init_16 : decode cX12_init 16 = .ok (.newarray .int, 2) := by decide +kernel
theorem dX12_init_18 : decode cX12_init 18 = .ok (.putfield 17, 3) := by decide +kernel
theorem dX12_init_21 : decode cX12_init 21 = .ok (.aload_n 0, 1) := by decide +kernel
theorem dX12_init_22 : decode cX12_init 22 = .ok (.sipush 160, 3) := by decide +kernel
theorem dX12_init_25 : decode cX12_init 25 = .ok (.newarray .int, 2) := by decide +kernel
theorem dX12_init_27 : decode cX12_init 27 = .ok (.putfield 20, 3) := by decide +kernel
theorem dX12_init_30 : decode cX12_init 30 = .ok (.aload_n 0, 1) := by decide +kernel
theorem dX12_init_31 : decode cX12_init 31 = .ok (.bipush 16, 2) := by decide +kernel
theorem dX12_init_33 : decode cX12_init 33 = .ok (.newarray .int, 2) := by decide +kernel
theorem dX12_init_35 : decode cX12_init 35 = .ok (.putfield 23, 3) := by decide +kernel
theorem dX12_init_38 : decode cX12_init 38 = .ok (.aload_n 0, 1) := by decide +kernel
theorem dX12_init_39 : decode cX12_init 39 = .ok (.bipush 16, 2) := by decide +kernel
theorem dX12_init_41 : decode cX12_init 41 = .ok (.newarray .int, 2) := by decide +kernel
theorem dX12_init_43 : decode cX12_init 43 = .ok (.putfield 26, 3) := by decide +kernel
theorem dX12_init_46 : decode cX12_init 46 = .ok (.aload_n 0, 1) := by decide +kernel
theorem dX12_init_47 : decode cX12_init 47 = .ok (.bipush 16, 2) := by decide +kernel
theorem dX12_init_49 : decode cX12_init 49 = .ok (.newarray .int, 2) := by decide +kernel
theorem dX12_init_51 : decode cX12_init 51 = .ok (.putfield 29, 3) := by decide +kernel
theorem dX12_init_54 : decode cX12_init 54 = .ok (.aload_n 0, 1) := by decide +kernel
theorem dX12_init_55 : decode cX12_init 55 = .ok (.bipush 16, 2) := by decide +kernel
theorem dX12_init_57 : decode cX12_init 57 = .ok (.newarray .int, 2) := by decide +kernel
theorem dX12_init_59 : decode cX12_init 59 = .ok (.putfield 32, 3) := by decide +kernel
theorem dX12_init_62 : decode cX12_init 62 = .ok (.aload_n 0, 1) := by decide +kernel
theorem dX12_init_63 : decode cX12_init 63 = .ok (.bipush 8, 2) := by decide +kernel
theorem dX12_init_65 : decode cX12_init 65 = .ok (.newarray .int, 2) := by decide +kernel
theorem dX12_init_67 : decode cX12_init 67 = .ok (.putfield 35, 3) := by decide +kernel
theorem dX12_init_70 : decode cX12_init 70 = .ok (.aload_n 0, 1) := by decide +kernel
theorem dX12_init_71 : decode cX12_init 71 = .ok (.bipush 8, 2) := by decide +kernel
theorem dX12_init_73 : decode cX12_init 73 = .ok (.newarray .int, 2) := by decide +kernel
theorem dX12_init_75 : decode cX12_init 75 = .ok (.putfield 38, 3) := by decide +kernel
theorem dX12_init_78 : decode cX12_init 78 = .ok (.aload_n 0, 1) := by decide +kernel
theorem dX12_init_79 : decode cX12_init 79 = .ok (.bipush 8, 2) := by decide +kernel
theorem dX12_init_81 : decode cX12_init 81 = .ok (.newarray .int, 2) := by decide +kernel
theorem dX12_init_83 : decode cX12_init 83 = .ok (.putfield 41, 3) := by decide +kernel
theorem dX12_init_86 : decode cX12_init 86 = .ok (.aload_n 0, 1) := by decide +kernel
theorem dX12_init_87 : decode cX12_init 87 = .ok (.bipush 8, 2) := by decide +kernel
theorem dX12_init_89 : decode cX12_init 89 = .ok (.newarray .int, 2) := by decide +kernel
theorem dX12_init_91 : decode cX12_init 91 = .ok (.putfield 44, 3) := by decide +kernel
theorem dX12_init_94 : decode cX12_init 94 = .ok (.aload_n 0, 1) := by decide +kernel
theorem dX12_init_95 : decode cX12_init 95 = .ok (.sipush 1600, 3) := by decide +kernel
theorem dX12_init_98 : decode cX12_init 98 = .ok (.newarray .int, 2) := by decide +kernel
theorem dX12_init_100 : decode cX12_init 100 = .ok (.putfield 47, 3) := by decide +kernel
theorem dX12_init_103 : decode cX12_init 103 = .ok (.aload_n 0, 1) := by decide +kernel
theorem dX12_init_104 : decode cX12_init 104 = .ok (.bipush 16, 2) := by decide +kernel
theorem dX12_init_106 : decode cX12_init 106 = .ok (.newarray .int, 2) := by decide +kernel
theorem dX12_init_108 : decode cX12_init 108 = .ok (.putfield 50, 3) := by decide +kernel
theorem dX12_init_111 : decode cX12_init 111 = .ok (.aload_n 0, 1) := by decide +kernel
theorem dX12_init_112 : decode cX12_init 112 = .ok (.bipush 8, 2) := by decide +kernel
theorem dX12_init_114 : decode cX12_init 114 = .ok (.newarray .long, 2) := by decide +kernel
theorem dX12_init_116 : decode cX12_init 116 = .ok (.putfield 53, 3) := by decide +kernel
theorem dX12_init_119 : decode cX12_init 119 = .ok (.aload_n 0, 1) := by decide +kernel
theorem dX12_init_120 : decode cX12_init 120 = .ok (.bipush 30, 2) := by decide +kernel
theorem dX12_init_122 : decode cX12_init 122 = .ok (.newarray .int, 2) := by decide +kernel
theorem dX12_init_124 : decode cX12_init 124 = .ok (.putfield 57, 3) := by decide +kernel
theorem dX12_init_127 : decode cX12_init 127 = .ok (.aload_n 0, 1) := by decide +kernel
theorem dX12_init_128 : decode cX12_init 128 = .ok (.bipush 30, 2) := by decide +kernel
theorem dX12_init_130 : decode cX12_init 130 = .ok (.newarray .int, 2) := by decide +kernel
theorem dX12_init_132 : decode cX12_init 132 = .ok (.putfield 60, 3) := by decide +kernel
theorem dX12_init_135 : decode cX12_init 135 = .ok (.aload_n 0, 1) := by decide +kernel
theorem dX12_init_136 : decode cX12_init 136 = .ok (.bipush 30, 2) := by decide +kernel
theorem dX12_init_138 : decode cX12_init 138 = .ok (.newarray .int, 2) := by decide +kernel
theorem dX12_init_140 : decode cX12_init 140 = .ok (.putfield 63, 3) := by decide +kernel
theorem dX12_init_143 : decode cX12_init 143 = .ok (.aload_n 0, 1) := by decide +kernel
theorem dX12_init_144 : decode cX12_init 144 = .ok (.bipush 30, 2) := by decide +kernel
theorem dX12_init_146 : decode cX12_init 146 = .ok (.newarray .int, 2) := by decide +kernel
theorem dX12_init_148 : decode cX12_init 148 = .ok (.putfield 66, 3) := by decide +kernel
theorem dX12_init_151 : decode cX12_init 151 = .ok (.aload_n 0, 1) := by decide +kernel
theorem dX12_init_152 : decode cX12_init 152 = .ok (.sipush 256, 3) := by decide +kernel
theorem dX12_init_155 : decode cX12_init 155 = .ok (.newarray .long, 2) := by decide +kernel
theorem dX12_init_157 : decode cX12_init 157 = .ok (.putfield 69, 3) := by decide +kernel
theorem dX12_init_160 : decode cX12_init 160 = .ok (.aload_n 0, 1) := by decide +kernel
theorem dX12_init_161 : decode cX12_init 161 = .ok (.bipush 120, 2) := by decide +kernel
theorem dX12_init_163 : decode cX12_init 163 = .ok (.newarray .int, 2) := by decide +kernel
theorem dX12_init_165 : decode cX12_init 165 = .ok (.putfield 72, 3) := by decide +kernel
theorem dX12_init_168 : decode cX12_init 168 = .ok (.aload_n 0, 1) := by decide +kernel
theorem dX12_init_169 : decode cX12_init 169 = .ok (.bipush 8, 2) := by decide +kernel
theorem dX12_init_171 : decode cX12_init 171 = .ok (.newarray .int, 2) := by decide +kernel
theorem dX12_init_173 : decode cX12_init 173 = .ok (.putfield 75, 3) := by decide +kernel
theorem dX12_init_176 : decode cX12_init 176 = .ok (.aload_n 0, 1) := by decide +kernel
theorem dX12_init_177 : decode cX12_init 177 = .ok (.bipush 8, 2) := by decide +kernel
theorem dX12_init_179 : decode cX12_init 179 = .ok (.newarray .int, 2) := by decide +kernel
theorem dX12_init_181 : decode cX12_init 181 = .ok (.putfield 78, 3) := by decide +kernel
theorem dX12_init_184 : decode cX12_init 184 = .ok (.aload_n 0, 1) := by decide +kernel
theorem dX12_init_185 : decode cX12_init 185 = .ok (.bipush 8, 2) := by decide +kernel
theorem dX12_init_187 : decode cX12_init 187 = .ok (.newarray .int, 2) := by decide +kernel
theorem dX12_init_189 : decode cX12_init 189 = .ok (.putfield 81, 3) := by decide +kernel
theorem dX12_init_192 : decode cX12_init 192 = .ok (.aload_n 0, 1) := by decide +kernel
theorem dX12_init_193 : decode cX12_init 193 = .ok (.bipush 16, 2) := by decide +kernel
theorem dX12_init_195 : decode cX12_init 195 = .ok (.newarray .int, 2) := by decide +kernel
theorem dX12_init_197 : decode cX12_init 197 = .ok (.putfield 84, 3) := by decide +kernel
theorem dX12_init_200 : decode cX12_init 200 = .ok (.aload_n 0, 1) := by decide +kernel
theorem dX12_init_201 : decode cX12_init 201 = .ok (.iconst 4, 1) := by decide +kernel
theorem dX12_init_202 : decode cX12_init 202 = .ok (.newarray .boolean, 2) := by decide +kernel
theorem dX12_init_204 : decode cX12_init 204 = .ok (.putfield 87, 3) := by decide +kernel
theorem dX12_init_207 : decode cX12_init 207 = .ok (.aload_n 0, 1) := by decide +kernel
theorem dX12_init_208 : decode cX12_init 208 = .ok (.iconst 4, 1) := by decide +kernel
theorem dX12_init_209 : decode cX12_init 209 = .ok (.newarray .int, 2) := by decide +kernel
theorem dX12_init_211 : decode cX12_init 211 = .ok (.putfield 91, 3) := by decide +kernel
theorem dX12_init_214 : decode cX12_init 214 = .ok (.aload_n 0, 1) := by decide +kernel
theorem dX12_init_215 : decode cX12_init 215 = .ok (.iconst 4, 1) := by decide +kernel
theorem dX12_init_216 : decode cX12_init 216 = .ok (.newarray .int, 2) := by decide +kernel
theorem dX12_init_218 : decode cX12_init 218 = .ok (.putfield 94, 3) := by decide +kernel
theorem dX12_init_221 : decode cX12_init 221 = .ok (.aload_n 0, 1) := by decide +kernel
theorem dX12_init_222 : decode cX12_init 222 = .ok (.sipush 160, 3) := by decide +kernel
theorem dX12_init_225 : decode cX12_init 225 = .ok (.newarray .int, 2) := by decide +kernel
theorem dX12_init_227 : decode cX12_init 227 = .ok (.putfield 97, 3) := by decide +kernel
theorem dX12_init_230 : decode cX12_init 230 = .ok (.aload_n 0, 1) := by decide +kernel
theorem dX12_init_231 : decode cX12_init 231 = .ok (.iconst 0, 1) := by decide +kernel
theorem dX12_init_232 : decode cX12_init 232 = .ok (.ldc2_w 100, 3) := by decide +kernel
theorem dX12_init_235 : decode cX12_init 235 = .ok (.invokevirtual 102, 3) := by decide +kernel
theorem dX12_init_238 : decode cX12_init 238 = .ok (.aload_n 0, 1) := by decide +kernel
theorem dX12_init_239 : decode cX12_init 239 = .ok (.bipush 8, 2) := by decide +kernel
theorem dX12_init_241 : decode cX12_init 241 = .ok (.ldc2_w 106, 3) := by decide +kernel
theorem dX12_init_244 : decode cX12_init 244 = .ok (.invokevirtual 102, 3) := by decide +kernel
theorem dX12_init_247 : decode cX12_init 247 = .ok (.aload_n 0, 1) := by decide +kernel
theorem dX12_init_248 : decode cX12_init 248 = .ok (.bipush 16, 2) := by decide +kernel
theorem dX12_init_250 : decode cX12_init 250 = .ok (.ldc2_w 108, 3) := by decide +kernel
theorem dX12_init_253 : decode cX12_init 253 = .ok (.invokevirtual 102, 3) := by decide +kernel
theorem dX12_init_256 : decode cX12_init 256 = .ok (.aload_n 0, 1) := by decide +kernel
theorem dX12_init_257 : decode cX12_init 257 = .ok (.bipush 24, 2) := by decide +kernel
theorem dX12_init_259 : decode cX12_init 259 = .ok (.ldc2_w 110, 3) := by decide +kernel
theorem dX12_init_262 : decode cX12_init 262 = .ok (.invokevirtual 102, 3) := by decide +kernel
theorem dX12_init_265 : decode cX12_init 265 = .ok (.aload_n 0, 1) := by decide +kernel
theorem dX12_init_266 : decode cX12_init 266 = .ok (.bipush 32, 2) := by decide +kernel
theorem dX12_init_268 : decode cX12_init 268 = .ok (.ldc2_w 112, 3) := by decide +kernel
theorem dX12_init_271 : decode cX12_init 271 = .ok (.invokevirtual 102, 3) := by decide +kernel
theorem dX12_init_274 : decode cX12_init 274 = .ok (.aload_n 0, 1) := by decide +kernel
theorem dX12_init_275 : decode cX12_init 275 = .ok (.getfield 17, 3) := by decide +kernel
theorem dX12_init_278 : decode cX12_init 278 = .ok (.iconst 0, 1) := by decide +kernel
theorem dX12_init_279 : decode cX12_init 279 = .ok (.bipush 40, 2) := by decide +kernel
theorem dX12_init_281 : decode cX12_init 281 = .ok (.iastore, 1) := by decide +kernel
theorem dX12_init_282 : decode cX12_init 282 = .ok (.aload_n 0, 1) := by decide +kernel
theorem dX12_init_283 : decode cX12_init 283 = .ok (.iconst 1, 1) := by decide +kernel
theorem dX12_init_284 : decode cX12_init 284 = .ok (.putfield 114, 3) := by decide +kernel
theorem dX12_init_287 : decode cX12_init 287 = .ok (.aload_n 0, 1) := by decide +kernel
theorem dX12_init_288 : decode cX12_init 288 = .ok (.bipush 20, 2) := by decide +kernel
theorem dX12_init_290 : decode cX12_init 290 = .ok (.putfield 117, 3) := by decide +kernel
theorem dX12_init_293 : decode cX12_init 293 = .ok (.iconst 0, 1) := by decide +kernel
theorem dX12_init_294 : decode cX12_init 294 = .ok (.istore_n 1, 1) := by decide +kernel
theorem dX12_init_295 : decode cX12_init 295 = .ok (.iload_n 1, 1) := by decide +kernel
theorem dX12_init_296 : decode cX12_init 296 = .ok (.bipush 8, 2) := by decide +kernel
theorem dX12_init_298 : decode cX12_init 298 = .ok (.if_icmp .ge 32, 3) := by decide +kernel
theorem dX12_init_301 : decode cX12_init 301 = .ok (.aload_n 0, 1) := by decide +kernel
theorem dX12_init_302 : decode cX12_init 302 = .ok (.getfield 35, 3) := by decide +kernel
theorem dX12_init_305 : decode cX12_init 305 = .ok (.iload_n 1, 1) := by decide +kernel
theorem dX12_init_306 : decode cX12_init 306 = .ok (.iconst (-1), 1) := by decide +kernel
theorem dX12_init_307 : decode cX12_init 307 = .ok (.iastore, 1) := by decide +kernel
theorem dX12_init_308 : decode cX12_init 308 = .ok (.aload_n 0, 1) := by decide +kernel
theorem dX12_init_309 : decode cX12_init 309 = .ok (.getfield 38, 3) := by decide +kernel
theorem dX12_init_312 : decode cX12_init 312 = .ok (.iload_n 1, 1) := by decide +kernel
theorem dX12_init_313 : decode cX12_init 313 = .ok (.iload_n 1, 1) := by decide +kernel
theorem dX12_init_314 : decode cX12_init 314 = .ok (.iconst 2, 1) := by decide +kernel
theorem dX12_init_315 : decode cX12_init 315 = .ok (.irem, 1) := by decide +kernel
theorem dX12_init_316 : decode cX12_init 316 = .ok (.iastore, 1) := by decide +kernel
theorem dX12_init_317 : decode cX12_init 317 = .ok (.aload_n 0, 1) := by decide +kernel
theorem dX12_init_318 : decode cX12_init 318 = .ok (.getfield 41, 3) := by decide +kernel
theorem dX12_init_321 : decode cX12_init 321 = .ok (.iload_n 1, 1) := by decide +kernel
theorem dX12_init_322 : decode cX12_init 322 = .ok (.iconst 4, 1) := by decide +kernel
theorem dX12_init_323 : decode cX12_init 323 = .ok (.iastore, 1) := by decide +kernel
theorem dX12_init_324 : decode cX12_init 324 = .ok (.iinc 1 1, 3) := by decide +kernel
theorem dX12_init_327 : decode cX12_init 327 = .ok (.goto (-32), 3) := by decide +kernel
theorem dX12_init_330 : decode cX12_init 330 = .ok (.return_, 1) := by decide +kernel
theorem dX2_init_0 : decode cX2_init 0 = .ok (.aload_n 0, 1) := by decide +kernel
theorem dX2_init_1 : decode cX2_init 1 = .ok (.invokespecial 3, 3) := by decide +kernel
theorem dX2_init_4 : decode cX2_init 4 = .ok (.aload_n 0, 1) := by decide +kernel
theorem dX2_init_5 : decode cX2_init 5 = .ok (.bipush 16, 2) := by decide +kernel
theorem dX2_init_7 : decode cX2_init 7 = .ok (.newarray .int, 2) := by decide +kernel
theorem dX2_init_9 : decode cX2_init 9 = .ok (.putfield 9, 3) := by decide +kernel
theorem dX2_init_12 : decode cX2_init 12 = .ok (.aload_n 0, 1) := by decide +kernel
theorem dX2_init_13 : decode cX2_init 13 = .ok (.bipush 16, 2) := by decide +kernel
theorem dX2_init_15 : decode cX2_init 15 = .ok (.newarray .int, 2) := by decide +kernel
theorem dX2_init_17 : decode cX2_init 17 = .ok (.putfield 15, 3) := by decide +kernel
theorem dX2_init_20 : decode cX2_init 20 = .ok (.aload_n 0, 1) := by decide +kernel
theorem dX2_init_21 : decode cX2_init 21 = .ok (.bipush 16, 2) := by decide +kernel
theorem dX2_init_23 : decode cX2_init 23 = .ok (.newarray .int, 2) := by decide +kernel
theorem dX2_init_25 : decode cX2_init 25 = .ok (.putfield 18, 3) := by decide +kernel
theorem dX2_init_28 : decode cX2_init 28 = .ok (.aload_n 0, 1) := by decide +kernel
theorem dX2_init_29 : decode cX2_init 29 = .ok (.bipush 16, 2) := by decide +kernel
theorem dX2_init_31 : decode cX2_init 31 = .ok (.newarray .int, 2) := by decide +kernel
theorem dX2_init_33 : decode cX2_init 33 = .ok (.putfield 21, 3) := by decide +kernel
theorem dX2_init_36 : decode cX2_init 36 = .ok (.return_, 1) := by decide +kernel
theorem dX5_init_0 : decode cX5_init 0 = .ok (.aload_n 0, 1) := by decide +kernel
theorem dX5_init_1 : decode cX5_init 1 = .ok (.invokespecial 3, 3) := by decide +kernel
theorem dX5_init_4 : decode cX5_init 4 = .ok (.aload_n 0, 1) := by decide +kernel
theorem dX5_init_5 : decode cX5_init 5 = .ok (.bipush 120, 2) := by decide +kernel
theorem dX5_init_7 : decode cX5_init 7 = .ok (.newarray .int, 2) := by decide +kernel
theorem dX5_init_9 : decode cX5_init 9 = .ok (.putfield 11, 3) := by decide +kernel
theorem dX5_init_12 : decode cX5_init 12 = .ok (.return_, 1) := by decide +kernel
theorem dX8_init_0 : decode cX8_init 0 = .ok (.aload_n 0, 1) := by decide +kernel
theorem dX8_init_1 : decode cX8_init 1 = .ok (.invokespecial 3, 3) := by decide +kernel
theorem dX8_init_4 : decode cX8_init 4 = .ok (.aload_n 0, 1) := by decide +kernel
theorem dX8_init_5 : decode cX8_init 5 = .ok (.sipush 160, 3) := by decide +kernel
theorem dX8_init_8 : decode cX8_init 8 = .ok (.newarray .byte, 2) := by decide +kernel
theorem dX8_init_10 : decode cX8_init 10 = .ok (.putfield 9, 3) := by decide +kernel
theorem dX8_init_13 : decode cX8_init 13 = .ok (.return_, 1) := by decide +kernel
theorem dX9_init_0 : decode cX9_init 0 = .ok (.aload_n 0, 1) := by decide +kernel
theorem dX9_init_1 : decode cX9_init 1 = .ok (.invokespecial 3, 3) := by decide +kernel
theorem dX9_init_4 : decode cX9_init 4 = .ok (.aload_n 0, 1) := by decide +kernel
theorem dX9_init_5 : decode cX9_init 5 = .ok (.sipush 160, 3) := by decide +kernel
theorem dX9_init_8 : decode cX9_init 8 = .ok (.newarray .int, 2) := by decide +kernel
theorem dX9_init_10 : decode cX9_init 10 = .ok (.putfield 9, 3) := by decide +kernel
theorem dX9_init_13 : decode cX9_init 13 = .ok (.aload_n 0, 1) := by decide +kernel
theorem dX9_init_14 : decode cX9_init 14 = .ok (.aload_n 1, 1) := by decide +kernel
theorem dX9_init_15 : decode cX9_init 15 = .ok (.putfield 15, 3) := by decide +kernel
theorem dX9_init_18 : decode cX9_init 18 = .ok (.return_, 1) := by decide +kernel
theorem dX1_init_0 : decode cX1_init 0 = .ok (.aload_n 0, 1) := by decide +kernel
theorem dX1_init_1 : decode cX1_init 1 = .ok (.invokespecial 3, 3) := by decide +kernel
theorem dX1_init_4 : decode cX1_init 4 = .ok (.aload_n 0, 1) := by decide +kernel
theorem dX1_init_5 : decode cX1_init 5 = .ok (.bipush 8, 2) := by decide +kernel
theorem dX1_init_7 : decode cX1_init 7 = .ok (.newarray .int, 2) := by decide +kernel
theorem dX1_init_9 : decode cX1_init 9 = .ok (.putfield 9, 3) := by decide +kernel
theorem dX1_init_12 : decode cX1_init 12 = .ok (.aload_n 0, 1) := by decide +kernel
theorem dX1_init_13 : decode cX1_init 13 = .ok (.bipush 8, 2) := by decide +kernel
theorem dX1_init_15 : decode cX1_init 15 = .ok (.newarray .int, 2) := by decide +kernel
theorem dX1_init_17 : decode cX1_init 17 = .ok (.putfield 15, 3) := by decide +kernel
theorem dX1_init_20 : decode cX1_init 20 = .ok (.aload_n 0, 1) := by decide +kernel
theorem dX1_init_21 : decode cX1_init 21 = .ok (.bipush 6, 2) := by decide +kernel
theorem dX1_init_23 : decode cX1_init 23 = .ok (.newarray .int, 2) := by decide +kernel
theorem dX1_init_25 : decode cX1_init 25 = .ok (.putfield 20, 3) := by decide +kernel
theorem dX1_init_28 : decode cX1_init 28 = .ok (.aload_n 0, 1) := by decide +kernel
theorem dX1_init_29 : decode cX1_init 29 = .ok (.sipush 160, 3) := by decide +kernel
theorem dX1_init_32 : decode cX1_init 32 = .ok (.newarray .int, 2) := by decide +kernel
theorem dX1_init_34 : decode cX1_init 34 = .ok (.putfield 23, 3) := by decide +kernel
theorem dX1_init_37 : decode cX1_init 37 = .ok (.aload_n 0, 1) := by decide +kernel
theorem dX1_init_38 : decode cX1_init 38 = .ok (.bipush 16, 2) := by decide +kernel
theorem dX1_init_40 : decode cX1_init 40 = .ok (.newarray .int, 2) := by decide +kernel
theorem dX1_init_42 : decode cX1_init 42 = .ok (.putfield 26, 3) := by decide +kernel
theorem dX1_init_45 : decode cX1_init 45 = .ok (.aload_n 0, 1) := by decide +kernel
theorem dX1_init_46 : decode cX1_init 46 = .ok (.aload_n 1, 1) := by decide +kernel
theorem dX1_init_47 : decode cX1_init 47 = .ok (.putfield 29, 3) := by decide +kernel
theorem dX1_init_50 : decode cX1_init 50 = .ok (.aload_n 0, 1) := by decide +kernel
theorem dX1_init_51 : decode cX1_init 51 = .ok (.aload_n 2, 1) := by decide +kernel
theorem dX1_init_52 : decode cX1_init 52 = .ok (.putfield 33, 3) := by decide +kernel
theorem dX1_init_55 : decode cX1_init 55 = .ok (.return_, 1) := by decide +kernel
theorem dX4_init_0 : decode cX4_init 0 = .ok (.aload_n 0, 1) := by decide +kernel
theorem dX4_init_1 : decode cX4_init 1 = .ok (.invokespecial 3, 3) := by decide +kernel
theorem dX4_init_4 : decode cX4_init 4 = .ok (.aload_n 0, 1) := by decide +kernel
theorem dX4_init_5 : decode cX4_init 5 = .ok (.bipush 8, 2) := by decide +kernel
theorem dX4_init_7 : decode cX4_init 7 = .ok (.sipush 200, 3) := by decide +kernel
theorem dX4_init_10 : decode cX4_init 10 = .ok (.multianewarray 11 2, 4) := by decide +kernel
theorem dX4_init_14 : decode cX4_init 14 = .ok (.putfield 13, 3) := by decide +kernel
theorem dX4_init_17 : decode cX4_init 17 = .ok (.aload_n 0, 1) := by decide +kernel
theorem dX4_init_18 : decode cX4_init 18 = .ok (.bipush 8, 2) := by decide +kernel
theorem dX4_init_20 : decode cX4_init 20 = .ok (.newarray .int, 2) := by decide +kernel
theorem dX4_init_22 : decode cX4_init 22 = .ok (.putfield 16, 3) := by decide +kernel
theorem dX4_init_25 : decode cX4_init 25 = .ok (.aload_n 0, 1) := by decide +kernel
theorem dX4_init_26 : decode cX4_init 26 = .ok (.aload_n 1, 1) := by decide +kernel
theorem dX4_init_27 : decode cX4_init 27 = .ok (.putfield 20, 3) := by decide +kernel
theorem dX4_init_30 : decode cX4_init 30 = .ok (.return_, 1) := by decide +kernel
theorem dX7_init_0 : decode cX7_init 0 = .ok (.aload_n 0, 1) := by decide +kernel
theorem dX7_init_1 : decode cX7_init 1 = .ok (.invokespecial 1, 3) := by decide +kernel
theorem dX7_init_4 : decode cX7_init 4 = .ok (.aload_n 0, 1) := by decide +kernel
theorem dX7_init_5 : decode cX7_init 5 = .ok (.iconst 4, 1) := by decide +kernel
theorem dX7_init_6 : decode cX7_init 6 = .ok (.newarray .int, 2) := by decide +kernel
theorem dX7_init_8 : decode cX7_init 8 = .ok (.dup, 1) := by decide +kernel
theorem dX7_init_9 : decode cX7_init 9 = .ok (.iconst 0, 1) := by decide +kernel
theorem dX7_init_10 : decode cX7_init 10 = .ok (.iconst (-1), 1) := by decide +kernel
theorem dX7_init_11 : decode cX7_init 11 = .ok (.iastore, 1) := by decide +kernel
theorem dX7_init_12 : decode cX7_init 12 = .ok (.dup, 1) := by decide +kernel
theorem dX7_init_13 : decode cX7_init 13 = .ok (.iconst 1, 1) := by decide +kernel
theorem dX7_init_14 : decode cX7_init 14 = .ok (.iconst (-1), 1) := by decide +kernel
theorem dX7_init_15 : decode cX7_init 15 = .ok (.iastore, 1) := by decide +kernel
theorem dX7_init_16 : decode cX7_init 16 = .ok (.dup, 1) := by decide +kernel
theorem dX7_init_17 : decode cX7_init 17 = .ok (.iconst 2, 1) := by decide +kernel
theorem dX7_init_18 : decode cX7_init 18 = .ok (.iconst (-1), 1) := by decide +kernel
theorem dX7_init_19 : decode cX7_init 19 = .ok (.iastore, 1) := by decide +kernel
theorem dX7_init_20 : decode cX7_init 20 = .ok (.dup, 1) := by decide +kernel
theorem dX7_init_21 : decode cX7_init 21 = .ok (.iconst 3, 1) := by decide +kernel
theorem dX7_init_22 : decode cX7_init 22 = .ok (.iconst (-1), 1) := by decide +kernel
theorem dX7_init_23 : decode cX7_init 23 = .ok (.iastore, 1) := by decide +kernel
theorem dX7_init_24 : decode cX7_init 24 = .ok (.putfield 9, 3) := by decide +kernel
theorem dX7_init_27 : decode cX7_init 27 = .ok (.aload_n 0, 1) := by decide +kernel
theorem dX7_init_28 : decode cX7_init 28 = .ok (.iconst 4, 1) := by decide +kernel
theorem dX7_init_29 : decode cX7_init 29 = .ok (.newarray .int, 2) := by decide +kernel
theorem dX7_init_31 : decode cX7_init 31 = .ok (.putfield 13, 3) := by decide +kernel
theorem dX7_init_34 : decode cX7_init 34 = .ok (.aload_n 0, 1) := by decide +kernel
theorem dX7_init_35 : decode cX7_init 35 = .ok (.iconst 4, 1) := by decide +kernel
theorem dX7_init_36 : decode cX7_init 36 = .ok (.bipush 40, 2) := by decide +kernel
theorem dX7_init_38 : decode cX7_init 38 = .ok (.multianewarray 16 2, 4) := by decide +kernel
theorem dX7_init_42 : decode cX7_init 42 = .ok (.putfield 18, 3) := by decide +kernel
theorem dX7_init_45 : decode cX7_init 45 = .ok (.return_, 1) := by decide +kernel
theorem dX10_init_0 : decode cX10_init 0 = .ok (.aload_n 0, 1) := by decide +kernel
theorem dX10_init_1 : decode cX10_init 1 = .ok (.invokespecial 3, 3) := by decide +kernel
theorem dX10_init_4 : decode cX10_init 4 = .ok (.aload_n 0, 1) := by decide +kernel
theorem dX10_init_5 : decode cX10_init 5 = .ok (.bipush 30, 2) := by decide +kernel
theorem dX10_init_7 : decode cX10_init 7 = .ok (.newarray .int, 2) := by decide +kernel
theorem dX10_init_9 : decode cX10_init 9 = .ok (.putfield 11, 3) := by decide +kernel
theorem dX10_init_12 : decode cX10_init 12 = .ok (.aload_n 0, 1) := by decide +kernel
theorem dX10_init_13 : decode cX10_init 13 = .ok (.bipush 30, 2) := by decide +kernel
theorem dX10_init_15 : decode cX10_init 15 = .ok (.newarray .int, 2) := by decide +kernel
theorem dX10_init_17 : decode cX10_init 17 = .ok (.putfield 15, 3) := by decide +kernel
theorem dX10_init_20 : decode cX10_init 20 = .ok (.aload_n 0, 1) := by decide +kernel
theorem dX10_init_21 : decode cX10_init 21 = .ok (.bipush 30, 2) := by decide +kernel
theorem dX10_init_23 : decode cX10_init 23 = .ok (.newarray .int, 2) := by decide +kernel
theorem dX10_init_25 : decode cX10_init 25 = .ok (.putfield 18, 3) := by decide +kernel
theorem dX10_init_28 : decode cX10_init 28 = .ok (.aload_n 0, 1) := by decide +kernel
theorem dX10_init_29 : decode cX10_init 29 = .ok (.bipush 30, 2) := by decide +kernel
theorem dX10_init_31 : decode cX10_init 31 = .ok (.newarray .int, 2) := by decide +kernel
theorem dX10_init_33 : decode cX10_init 33 = .ok (.putfield 21, 3) := by decide +kernel
theorem dX10_init_36 : decode cX10_init 36 = .ok (.aload_n 0, 1) := by decide +kernel
theorem dX10_init_37 : decode cX10_init 37 = .ok (.bipush 13, 2) := by decide +kernel
theorem dX10_init_39 : decode cX10_init 39 = .ok (.sipush 256, 3) := by decide +kernel
theorem dX10_init_42 : decode cX10_init 42 = .ok (.multianewarray 24 2, 4) := by decide +kernel
theorem dX10_init_46 : decode cX10_init 46 = .ok (.putfield 26, 3) := by decide +kernel
theorem dX10_init_49 : decode cX10_init 49 = .ok (.return_, 1) := by decide +kernel
theorem dX6_init_0 : decode cX6_init 0 = .ok (.aload_n 0, 1) := by decide +kernel
theorem dX6_init_1 : decode cX6_init 1 = .ok (.invokespecial 3, 3) := by decide +kernel
theorem dX6_init_4 : decode cX6_init 4 = .ok (.aload_n 0, 1) := by decide +kernel
theorem dX6_init_5 : decode cX6_init 5 = .ok (.aload_n 1, 1) := by decide +kernel
theorem dX6_init_6 : decode cX6_init 6 = .ok (.putfield 9, 3) := by decide +kernel
theorem dX6_init_9 : decode cX6_init 9 = .ok (.aload_n 0, 1) := by decide +kernel
theorem dX6_init_10 : decode cX6_init 10 = .ok (.iload_n 2, 1) := by decide +kernel
theorem dX6_init_11 : decode cX6_init 11 = .ok (.putfield 13, 3) := by decide +kernel
theorem dX6_init_14 : decode cX6_init 14 = .ok (.return_, 1) := by decide +kernel
def shB (k : Nat) : Nat × Nat := ([(0, 0), (1, 8), (1, 8), (1, 8)] : List (Nat × Nat)).getD k (9, 0)
def rB (k j : Nat) : Option Nat := if k = 0 then ([some 1, some 2, some 3, none, none] : List (Option Nat)).getD j none else none
def cw_X2_init (C : Nat → ClassId) (h0 : Nat) (u : Nat → Nat → Nat) : va_W := [(h0, .inr (2, [.ref (u 0 0), .ref (u 0 1), .ref (u 0 2), .ref (u 0 3), .int 0])), ((u 0 0), .inl (C 0, 16, .inl (fun _ => 0))), ((u 0 1), .inl (C 0, 16, .inl (fun _ => 0))), ((u 0 2), .inl (C 0, 16, .inl (fun _ => 0))), ((u 0 3), .inl (C 0, 16, .inl (fun _ => 0)))]
def cw_X5_init (C : Nat → ClassId) (h0 : Nat) (u : Nat → Nat → Nat) : va_W := [(h0, .inr (5, [.ref (u 0 0), .int 0])), ((u 0 0), .inl (C 0, 120, .inl (fun _ => 0)))]
def cw_X8_init (C : Nat → ClassId) (h0 : Nat) (u : Nat → Nat → Nat) : va_W := [(h0, .inr (8, [.ref (u 0 0), .int 0])), ((u 0 0), .inl (C 1, 160, .inl (fun _ => 0)))]
def cw_X9_init (C : Nat → ClassId) (h0 : Nat) (a1 : Nat) (u : Nat → Nat → Nat) : va_W := [(h0, .inr (9, [.ref a1, .ref (u 0 0), .int 0, .int 0, .int 0, .int 0, .int 0])), ((u 0 0), .inl (C 0, 160, .inl (fun _ => 0)))]
def cw_X1_init (C : Nat → ClassId) (h0 : Nat) (a1 : Nat) (a2 : Nat) (u : Nat → Nat → Nat) : va_W := [(h0, .inr (1, [.ref a1, .ref a2, .null, .ref (u 0 0), .ref (u 0 1), .ref (u 0 2), .ref (u 0 3), .int 0, .int 0, .ref (u 0 4), .int 0, .long 0, .long 0, .long 0, .long 0])), ((u 0 0), .inl (C 0, 8, .inl (fun _ => 0))), ((u 0 1), .inl (C 0, 8, .inl (fun _ => 0))), ((u 0 2), .inl (C 0, 6, .inl (fun _ => 0))), ((u 0 3), .inl (C 0, 160, .inl (fun _ => 0))), ((u 0 4), .inl (C 0, 16, .inl (fun _ => 0)))]
def cw_X4_init (C : Nat → ClassId) (h0 : Nat) (a1 : Nat) (u : Nat → Nat → Nat) : va_W := [(h0, .inr (4, [.ref a1, .ref (u 0 0), .ref (u 0 1), .int 0])), ((u 0 0), .inl (C 4, 8, .inr (.inr (.inr (.inr (fun i => if i < 8 then some (u 1 i) else none)))))), ((u 1 0), .inl (C 0, 200, .inl (fun _ => 0))), ((u 1 1), .inl (C 0, 200, .inl (fun _ => 0))), ((u 1 2), .inl (C 0, 200, .inl (fun _ => 0))), ((u 1 3), .inl (C 0, 200, .inl (fun _ => 0))), ((u 1 4), .inl (C 0, 200, .inl (fun _ => 0))), ((u 1 5), .inl (C 0, 200, .inl (fun _ => 0))), ((u 1 6), .inl (C 0, 200, .inl (fun _ => 0))), ((u 1 7), .inl (C 0, 200, .inl (fun _ => 0))), ((u 0 1), .inl (C 0, 8, .inl (fun _ => 0)))]
def cw_X7_init (C : Nat → ClassId) (h0 : Nat) (u : Nat → Nat → Nat) : va_W := [(h0, .inr (7, [.ref (u 0 0), .ref (u 0 1), .ref (u 0 2)])), ((u 0 0), .inl (C 0, 4, .inl (upd (upd (upd (upd (fun _ => 0) 0 (-1)) 1 (-1)) 2 (-1)) 3 (-1)))), ((u 0 1), .inl (C 0, 4, .inl (fun _ => 0))), ((u 0 2), .inl (C 4, 4, .inr (.inr (.inr (.inr (fun i => if i < 4 then some (u 1 i) else none)))))), ((u 1 0), .inl (C 0, 40, .inl (fun _ => 0))), ((u 1 1), .inl (C 0, 40, .inl (fun _ => 0))), ((u 1 2), .inl (C 0, 40, .inl (fun _ => 0))), ((u 1 3), .inl (C 0, 40, .inl (fun _ => 0)))]
def cw_X10_init (C : Nat → ClassId) (h0 : Nat) (u : Nat → Nat → Nat) : va_W := [(h0, .inr (10, [.ref (u 0 0), .ref (u 0 1), .ref (u 0 2), .ref (u 0 3), .int 0, .ref (u 0 4), .int 0, .int 0])), ((u 0 0), .inl (C 0, 30, .inl (fun _ => 0))), ((u 0 1), .inl (C 0, 30, .inl (fun _ => 0))), ((u 0 2), .inl (C 0, 30, .inl (fun _ => 0))), ((u 0 3), .inl (C 0, 30, .inl (fun _ => 0))), ((u 0 4), .inl (C 4, 13, .inr (.inr (.inr (.inr (fun i => if i < 13 then some (u 1 i) else none)))))), ((u 1 0), .inl (C 0, 256, .inl (fun _ => 0))), ((u 1 1), .inl (C 0, 256, .inl (fun _ => 0))), ((u 1 2), .inl (C 0, 256, .inl (fun _ => 0))), ((u 1 3), .inl (C 0, 256, .inl (fun _ => 0))), ((u 1 4), .inl (C 0, 256, .inl (fun _ => 0))), ((u 1 5), .inl (C 0, 256, .inl (fun _ => 0))), ((u 1 6), .inl (C 0, 256, .inl (fun _ => 0))), ((u 1 7), .inl (C 0, 256, .inl (fun _ => 0))), ((u 1 8), .inl (C 0, 256, .inl (fun _ => 0))), ((u 1 9), .inl (C 0, 256, .inl (fun _ => 0))), ((u 1 10), .inl (C 0, 256, .inl (fun _ => 0))), ((u 1 11), .inl (C 0, 256, .inl (fun _ => 0))), ((u 1 12), .inl (C 0, 256, .inl (fun _ => 0)))]
def cw_X6_init (C : Nat → ClassId) (h0 : Nat) (a1 : Nat) (a2 : Int32) (u : Nat → Nat → Nat) : va_W := [(h0, .inr (6, [.ref a1, .int a2]))]
def f_X0_tail_l36   : Nat → Int32 → St → Option St
  | 0, _, _ => none
  | n + 1, x1, σ2 => (if 8 ≤ x1 then some σ2 else gd (inb x1 8) (nm (sI σ2 1 (Int32.toNatClampNeg x1) (-1)) (fun σ5 => gd (inb x1 8) (nm (sI σ5 2 (Int32.toNatClampNeg x1) (x1 - x1 / 2 * 2)) (fun σ7 => gd (inb x1 8) (nm (sI σ7 3 (Int32.toNatClampNeg x1) 4) (fun σ9 => f_X0_tail_l36 n (x1 + 1) σ9)))))))
def f_X0_tail (σ : St) : Option St := f_X0_tail_l36 FU 0 σ
def f_X12_tail_l295   : Nat → Int32 → St → Option St
  | 0, _, _ => none
  | n + 1, x10, σ11 => (if 8 ≤ x10 then some σ11 else gd (inb x10 8) (nm (sI σ11 8 (Int32.toNatClampNeg x10) (-1)) (fun σ14 => gd (inb x10 8) (nm (sI σ14 9 (Int32.toNatClampNeg x10) (x10 - x10 / 2 * 2)) (fun σ16 => gd (inb x10 8) (nm (sI σ16 10 (Int32.toNatClampNeg x10) 4) (fun σ18 => f_X12_tail_l295 n (x10 + 1) σ18)))))))
def f_X12_tail (σ : St) : Option St := bdv (f_X12_spell σ 0 7451617235168554866) (fun σ1 => bdv (f_X12_spell σ1 8 7162166152001971553) (fun σ2 => bdv (f_X12_spell σ2 16 8223637929888735591) (fun σ3 => bdv (f_X12_spell σ3 24 2338336212330487850) (fun σ4 => bdv (f_X12_spell σ4 32 2319952196363362336) (fun σ5 => gd (inb 0 6) (nm (sI σ5 2 (Int32.toNatClampNeg 0) 40) (fun σ7 => nm (sI σ7 0 3 1) (fun σ8 => nm (sI σ8 0 15 20) (fun σ9 => f_X12_tail_l295 FU 0 σ9)))))))))
set_option maxHeartbeats 4000000 in
set_option maxRecDepth 100000 in
theorem i_X2_init {KV : (Nat → Nat) × (Nat → Nat)} {l : Launch} {D : va_G} {C : Nat → ClassId} (h0 : Nat) : MtC KV l yX2_init cX2_init 1 1 4 64 12 D C [.ref h0] [(h0, .inr (2, [.null, .null, .null, .null, .int 0]))] (cw_X2_init C h0) := by
  intro sz
  refine Met.ofW (cc := cX2_init) (maxL := 1) (ret := none) (by decide) rfl ?_
  intro p e s m args below meth c s₁ B hml hv
  obtain ⟨rfl, hsz, hP, hK, hD0, hE, hX⟩ := hv
  have hx := B.exec
  have hb := B.bytes
  have hr := B.returns
  have hts0 := atoms_spec (ws := .code yX2_init cX2_init 1 none :: gw) B.pre
  have hts : ∀ w ∈ gw, w.before _ s = true := fun w9 h9 => hts0 w9 (List.mem_cons_of_mem _ h9)
  have hown : s.vm.findClass RX2 = some m.cls := findClass_of_methodNamed B.named
  have hlocks := B.notSynchronized
  have hin : meth.name = "<init>" := (name_of_methodNamed B.named B.method).1
  subst hsz
  have hD := hD0.self (sz := s.heap.size)
  generalize hAe : va_A [(h0, .inr (2, [.null, .null, .null, .null, .int 0]))] s.heap.size = A at hD hX ⊢
  have hA : ∀ q : Nat, s.heap.size ≤ q → A q := fun q h => by rw [← hAe]; exact Or.inr h
  have hS : va_S A s.heap s.heap [] := va_S.rf
  have hl := lv_entry ([.ref h0]) (n := 1) (Nat.le_of_ble_eq_true rfl)
  rw [lg_entry_eq]
  generalize (lg_sl ([.ref h0]) ++ List.replicate (1 - (lg_sl ([.ref h0])).length) Slot.unset).toArray = ls at hl ⊢
  have hl : lv_has ls 1 [(0, .ref h0)] := hl
  refine lv_aload_n hx hb dX2_init_0 rfl (lv_at hl 0 rfl) ?_
  refine W.objInit hx hb hown (hts _ lm_X2_3) (hts _ wo_1) (hts _ wo_2) rfl (by rw [hml]; exact hl.1) rfl dX2_init_1 (Nat.le_of_ble_eq_true rfl) (Nat.le_of_ble_eq_true rfl) ?_
  refine W.eq (g2 := F0 m 4 ls []) rfl ?_
  refine lv_aload_n hx hb dX2_init_4 rfl (lv_at hl 0 rfl) ?_
  refine lv_bipush (v := 16) hx hb dX2_init_5 (by decide) ?_
  refine e_newI (n := 16) (N' := 16) hx hb hts wa_int hK hP hD hS hA (by decide) (by decide) (by decide) (Nat.le_of_ble_eq_true rfl) (Nat.le_of_ble_eq_true rfl) dX2_init_7 (fun q1 H hP hD hS => ?_)
  have hP : va_P D classes [(h0, .inr (2, [.null, .null, .null, .null, .int 0])), (q1, .inl (C 0, 16, .inl (fun _ => 0)))] H := hP
  have hD : va_D A [(h0, .inr (2, [.null, .null, .null, .null, .int 0])), (q1, .inl (C 0, 16, .inl (fun _ => 0)))] := hD
  refine va_putF (ci := 2) (v := .ref q1) (ty := .array (.int)) (C := RX2) (T := TX2) (N := 5) hx hb hts clX2.ws tyX2 tyX2_ok nmX2 hown hK hP hD hS 0 rfl rfl 0 (by decide) (hts _ lf_X2_9) (fun _ h9 => h9) rfl hin rfl (by decide +kernel) rfl rfl (Nat.le_of_ble_eq_true rfl) dX2_init_9 (fun H locs hP hD hS => ?_)
  have hP : va_P D classes [(h0, .inr (2, [.ref q1, .null, .null, .null, .int 0])), (q1, .inl (C 0, 16, .inl (fun _ => 0)))] H := hP
  have hD : va_D A [(h0, .inr (2, [.ref q1, .null, .null, .null, .int 0])), (q1, .inl (C 0, 16, .inl (fun _ => 0)))] := hD
  refine lv_aload_n hx hb dX2_init_12 rfl (lv_at hl 0 rfl) ?_
  refine lv_bipush (v := 16) hx hb dX2_init_13 (by decide) ?_
  refine e_newI (n := 16) (N' := 16) hx hb hts wa_int hK hP hD hS hA (by decide) (by decide) (by decide) (Nat.le_of_ble_eq_true rfl) (Nat.le_of_ble_eq_true rfl) dX2_init_15 (fun q2 H hP hD hS => ?_)
  have hP : va_P D classes [(h0, .inr (2, [.ref q1, .null, .null, .null, .int 0])), (q1, .inl (C 0, 16, .inl (fun _ => 0))), (q2, .inl (C 0, 16, .inl (fun _ => 0)))] H := hP
  have hD : va_D A [(h0, .inr (2, [.ref q1, .null, .null, .null, .int 0])), (q1, .inl (C 0, 16, .inl (fun _ => 0))), (q2, .inl (C 0, 16, .inl (fun _ => 0)))] := hD
  refine va_putF (ci := 2) (v := .ref q2) (ty := .array (.int)) (C := RX2) (T := TX2) (N := 5) hx hb hts clX2.ws tyX2 tyX2_ok nmX2 hown hK hP hD hS 0 rfl rfl 1 (by decide) (hts _ lf_X2_15) (fun _ h9 => h9) rfl hin rfl (by decide +kernel) rfl rfl (Nat.le_of_ble_eq_true rfl) dX2_init_17 (fun H locs hP hD hS => ?_)
  have hP : va_P D classes [(h0, .inr (2, [.ref q1, .ref q2, .null, .null, .int 0])), (q1, .inl (C 0, 16, .inl (fun _ => 0))), (q2, .inl (C 0, 16, .inl (fun _ => 0)))] H := hP
  have hD : va_D A [(h0, .inr (2, [.ref q1, .ref q2, .null, .null, .int 0])), (q1, .inl (C 0, 16, .inl (fun _ => 0))), (q2, .inl (C 0, 16, .inl (fun _ => 0)))] := hD
  refine lv_aload_n hx hb dX2_init_20 rfl (lv_at hl 0 rfl) ?_
  refine lv_bipush (v := 16) hx hb dX2_init_21 (by decide) ?_
  refine e_newI (n := 16) (N' := 16) hx hb hts wa_int hK hP hD hS hA (by decide) (by decide) (by decide) (Nat.le_of_ble_eq_true rfl) (Nat.le_of_ble_eq_true rfl) dX2_init_23 (fun q3 H hP hD hS => ?_)
  have hP : va_P D classes [(h0, .inr (2, [.ref q1, .ref q2, .null, .null, .int 0])), (q1, .inl (C 0, 16, .inl (fun _ => 0))), (q2, .inl (C 0, 16, .inl (fun _ => 0))), (q3, .inl (C 0, 16, .inl (fun _ => 0)))] H := hP
  have hD : va_D A [(h0, .inr (2, [.ref q1, .ref q2, .null, .null, .int 0])), (q1, .inl (C 0, 16, .inl (fun _ => 0))), (q2, .inl (C 0, 16, .inl (fun _ => 0))), (q3, .inl (C 0, 16, .inl (fun _ => 0)))] := hD
  refine va_putF (ci := 2) (v := .ref q3) (ty := .array (.int)) (C := RX2) (T := TX2) (N := 5) hx hb hts clX2.ws tyX2 tyX2_ok nmX2 hown hK hP hD hS 0 rfl rfl 2 (by decide) (hts _ lf_X2_18) (fun _ h9 => h9) rfl hin rfl (by decide +kernel) rfl rfl (Nat.le_of_ble_eq_true rfl) dX2_init_25 (fun H locs hP hD hS => ?_)
  have hP : va_P D classes [(h0, .inr (2, [.ref q1, .ref q2, .ref q3, .null, .int 0])), (q1, .inl (C 0, 16, .inl (fun _ => 0))), (q2, .inl (C 0, 16, .inl (fun _ => 0))), (q3, .inl (C 0, 16, .inl (fun _ => 0)))] H := hP
  have hD : va_D A [(h0, .inr (2, [.ref q1, .ref q2, .ref q3, .null, .int 0])), (q1, .inl (C 0, 16, .inl (fun _ => 0))), (q2, .inl (C 0, 16, .inl (fun _ => 0))), (q3, .inl (C 0, 16, .inl (fun _ => 0)))] := hD
  refine lv_aload_n hx hb dX2_init_28 rfl (lv_at hl 0 rfl) ?_
  refine lv_bipush (v := 16) hx hb dX2_init_29 (by decide) ?_
  refine e_newI (n := 16) (N' := 16) hx hb hts wa_int hK hP hD hS hA (by decide) (by decide) (by decide) (Nat.le_of_ble_eq_true rfl) (Nat.le_of_ble_eq_true rfl) dX2_init_31 (fun q4 H hP hD hS => ?_)
  have hP : va_P D classes [(h0, .inr (2, [.ref q1, .ref q2, .ref q3, .null, .int 0])), (q1, .inl (C 0, 16, .inl (fun _ => 0))), (q2, .inl (C 0, 16, .inl (fun _ => 0))), (q3, .inl (C 0, 16, .inl (fun _ => 0))), (q4, .inl (C 0, 16, .inl (fun _ => 0)))] H := hP
  have hD : va_D A [(h0, .inr (2, [.ref q1, .ref q2, .ref q3, .null, .int 0])), (q1, .inl (C 0, 16, .inl (fun _ => 0))), (q2, .inl (C 0, 16, .inl (fun _ => 0))), (q3, .inl (C 0, 16, .inl (fun _ => 0))), (q4, .inl (C 0, 16, .inl (fun _ => 0)))] := hD
  refine va_putF (ci := 2) (v := .ref q4) (ty := .array (.int)) (C := RX2) (T := TX2) (N := 5) hx hb hts clX2.ws tyX2 tyX2_ok nmX2 hown hK hP hD hS 0 rfl rfl 3 (by decide) (hts _ lf_X2_21) (fun _ h9 => h9) rfl hin rfl (by decide +kernel) rfl rfl (Nat.le_of_ble_eq_true rfl) dX2_init_33 (fun H locs hP hD hS => ?_)
  have hP : va_P D classes [(h0, .inr (2, [.ref q1, .ref q2, .ref q3, .ref q4, .int 0])), (q1, .inl (C 0, 16, .inl (fun _ => 0))), (q2, .inl (C 0, 16, .inl (fun _ => 0))), (q3, .inl (C 0, 16, .inl (fun _ => 0))), (q4, .inl (C 0, 16, .inl (fun _ => 0)))] H := hP
  have hD : va_D A [(h0, .inr (2, [.ref q1, .ref q2, .ref q3, .ref q4, .int 0])), (q1, .inl (C 0, 16, .inl (fun _ => 0))), (q2, .inl (C 0, 16, .inl (fun _ => 0))), (q3, .inl (C 0, 16, .inl (fun _ => 0))), (q4, .inl (C 0, 16, .inl (fun _ => 0)))] := hD
  exact W.vret hx hb hr (fun t ht hW => ⟨⟨(fun k => [(fun i => [q1, q2, q3, q4].getD i 0)].getD k (fun _ => 0)), rfl, trivial, by rw [ht]; exact hP, va_K.moved hW.alike hK, hD⟩, hS.F ht⟩) hS.2.2 dX2_init_36
set_option maxHeartbeats 4000000 in
set_option maxRecDepth 100000 in
theorem i_X5_init {KV : (Nat → Nat) × (Nat → Nat)} {l : Launch} {D : va_G} {C : Nat → ClassId} (h0 : Nat) : MtC KV l yX5_init cX5_init 1 1 1 120 12 D C [.ref h0] [(h0, .inr (5, [.null, .int 0]))] (cw_X5_init C h0) := by
  intro sz
  refine Met.ofW (cc := cX5_init) (maxL := 1) (ret := none) (by decide) rfl ?_
  intro p e s m args below meth c s₁ B hml hv
  obtain ⟨rfl, hsz, hP, hK, hD0, hE, hX⟩ := hv
  have hx := B.exec
  have hb := B.bytes
  have hr := B.returns
  have hts0 := atoms_spec (ws := .code yX5_init cX5_init 1 none :: gw) B.pre
  have hts : ∀ w ∈ gw, w.before _ s = true := fun w9 h9 => hts0 w9 (List.mem_cons_of_mem _ h9)
  have hown : s.vm.findClass RX5 = some m.cls := findClass_of_methodNamed B.named
  have hlocks := B.notSynchronized
  have hin : meth.name = "<init>" := (name_of_methodNamed B.named B.method).1
  subst hsz
  have hD := hD0.self (sz := s.heap.size)
  generalize hAe : va_A [(h0, .inr (5, [.null, .int 0]))] s.heap.size = A at hD hX ⊢
  have hA : ∀ q : Nat, s.heap.size ≤ q → A q := fun q h => by rw [← hAe]; exact Or.inr h
  have hS : va_S A s.heap s.heap [] := va_S.rf
  have hl := lv_entry ([.ref h0]) (n := 1) (Nat.le_of_ble_eq_true rfl)
  rw [lg_entry_eq]
  generalize (lg_sl ([.ref h0]) ++ List.replicate (1 - (lg_sl ([.ref h0])).length) Slot.unset).toArray = ls at hl ⊢
  have hl : lv_has ls 1 [(0, .ref h0)] := hl
  refine lv_aload_n hx hb dX5_init_0 rfl (lv_at hl 0 rfl) ?_
  refine W.objInit hx hb hown (hts _ lm_X5_3) (hts _ wo_1) (hts _ wo_2) rfl (by rw [hml]; exact hl.1) rfl dX5_init_1 (Nat.le_of_ble_eq_true rfl) (Nat.le_of_ble_eq_true rfl) ?_
  refine W.eq (g2 := F0 m 4 ls []) rfl ?_
  refine lv_aload_n hx hb dX5_init_4 rfl (lv_at hl 0 rfl) ?_
  refine lv_bipush (v := 120) hx hb dX5_init_5 (by decide) ?_
  refine e_newI (n := 120) (N' := 120) hx hb hts wa_int hK hP hD hS hA (by decide) (by decide) (by decide) (Nat.le_of_ble_eq_true rfl) (Nat.le_of_ble_eq_true rfl) dX5_init_7 (fun q1 H hP hD hS => ?_)
  have hP : va_P D classes [(h0, .inr (5, [.null, .int 0])), (q1, .inl (C 0, 120, .inl (fun _ => 0)))] H := hP
  have hD : va_D A [(h0, .inr (5, [.null, .int 0])), (q1, .inl (C 0, 120, .inl (fun _ => 0)))] := hD
  refine va_putF (ci := 5) (v := .ref q1) (ty := .array (.int)) (C := RX5) (T := TX5) (N := 2) hx hb hts clX5.ws tyX5 tyX5_ok nmX5 hown hK hP hD hS 0 rfl rfl 0 (by decide) (hts _ lf_X5_11) (fun _ h9 => h9) rfl hin rfl (by decide +kernel) rfl rfl (Nat.le_of_ble_eq_true rfl) dX5_init_9 (fun H locs hP hD hS => ?_)
  have hP : va_P D classes [(h0, .inr (5, [.ref q1, .int 0])), (q1, .inl (C 0, 120, .inl (fun _ => 0)))] H := hP
  have hD : va_D A [(h0, .inr (5, [.ref q1, .int 0])), (q1, .inl (C 0, 120, .inl (fun _ => 0)))] := hD
  exact W.vret hx hb hr (fun t ht hW => ⟨⟨(fun k => [(fun i => [q1].getD i 0)].getD k (fun _ => 0)), rfl, trivial, by rw [ht]; exact hP, va_K.moved hW.alike hK, hD⟩, hS.F ht⟩) hS.2.2 dX5_init_12
set_option maxHeartbeats 4000000 in
set_option maxRecDepth 100000 in
theorem i_X8_init {KV : (Nat → Nat) × (Nat → Nat)} {l : Launch} {D : va_G} {C : Nat → ClassId} (h0 : Nat) : MtC KV l yX8_init cX8_init 1 1 1 160 12 D C [.ref h0] [(h0, .inr (8, [.null, .int 0]))] (cw_X8_init C h0) := by
  intro sz
  refine Met.ofW (cc := cX8_init) (maxL := 1) (ret := none) (by decide) rfl ?_
  intro p e s m args below meth c s₁ B hml hv
  obtain ⟨rfl, hsz, hP, hK, hD0, hE, hX⟩ := hv
  have hx := B.exec
  have hb := B.bytes
  have hr := B.returns
  have hts0 := atoms_spec (ws := .code yX8_init cX8_init 1 none :: gw) B.pre
  have hts : ∀ w ∈ gw, w.before _ s = true := fun w9 h9 => hts0 w9 (List.mem_cons_of_mem _ h9)
  have hown : s.vm.findClass RX8 = some m.cls := findClass_of_methodNamed B.named
  have hlocks := B.notSynchronized
  have hin : meth.name = "<init>" := (name_of_methodNamed B.named B.method).1
  subst hsz
  have hD := hD0.self (sz := s.heap.size)
  generalize hAe : va_A [(h0, .inr (8, [.null, .int 0]))] s.heap.size = A at hD hX ⊢
  have hA : ∀ q : Nat, s.heap.size ≤ q → A q := fun q h => by rw [← hAe]; exact Or.inr h
  have hS : va_S A s.heap s.heap [] := va_S.rf
  have hl := lv_entry ([.ref h0]) (n := 1) (Nat.le_of_ble_eq_true rfl)
  rw [lg_entry_eq]
  generalize (lg_sl ([.ref h0]) ++ List.replicate (1 - (lg_sl ([.ref h0])).length) Slot.unset).toArray = ls at hl ⊢
  have hl : lv_has ls 1 [(0, .ref h0)] := hl
  refine lv_aload_n hx hb dX8_init_0 rfl (lv_at hl 0 rfl) ?_
  refine W.objInit hx hb hown (hts _ lm_X8_3) (hts _ wo_1) (hts _ wo_2) rfl (by rw [hml]; exact hl.1) rfl dX8_init_1 (Nat.le_of_ble_eq_true rfl) (Nat.le_of_ble_eq_true rfl) ?_
  refine W.eq (g2 := F0 m 4 ls []) rfl ?_
  refine lv_aload_n hx hb dX8_init_4 rfl (lv_at hl 0 rfl) ?_
  refine lv_sipush (v := 160) hx hb dX8_init_5 (by decide) ?_
  refine e_newB (n := 160) (N' := 160) hx hb hts wa_byte hK hP hD hS hA (by decide) (by decide) (by decide) (Nat.le_of_ble_eq_true rfl) (Nat.le_of_ble_eq_true rfl) dX8_init_8 (fun q1 H hP hD hS => ?_)
  have hP : va_P D classes [(h0, .inr (8, [.null, .int 0])), (q1, .inl (C 1, 160, .inl (fun _ => 0)))] H := hP
  have hD : va_D A [(h0, .inr (8, [.null, .int 0])), (q1, .inl (C 1, 160, .inl (fun _ => 0)))] := hD
  refine va_putF (ci := 8) (v := .ref q1) (ty := .array (.byte)) (C := RX8) (T := TX8) (N := 2) hx hb hts clX8.ws tyX8 tyX8_ok nmX8 hown hK hP hD hS 0 rfl rfl 0 (by decide) (hts _ lf_X8_9) (fun _ h9 => h9) rfl hin rfl (by decide +kernel) rfl rfl (Nat.le_of_ble_eq_true rfl) dX8_init_10 (fun H locs hP hD hS => ?_)
  have hP : va_P D classes [(h0, .inr (8, [.ref q1, .int 0])), (q1, .inl (C 1, 160, .inl (fun _ => 0)))] H := hP
  have hD : va_D A [(h0, .inr (8, [.ref q1, .int 0])), (q1, .inl (C 1, 160, .inl (fun _ => 0)))] := hD
  exact W.vret hx hb hr (fun t ht hW => ⟨⟨(fun k => [(fun i => [q1].getD i 0)].getD k (fun _ => 0)), rfl, trivial, by rw [ht]; exact hP, va_K.moved hW.alike hK, hD⟩, hS.F ht⟩) hS.2.2 dX8_init_13
set_option maxHeartbeats 4000000 in
set_option maxRecDepth 100000 in
theorem i_X9_init {KV : (Nat → Nat) × (Nat → Nat)} {l : Launch} {D : va_G} {C : Nat → ClassId} (h0 : Nat) (a1 : Nat) : MtC KV l yX9_init cX9_init 2 1 1 160 12 D C [.ref h0, .ref a1] [(h0, .inr (9, [.null, .null, .int 0, .int 0, .int 0, .int 0, .int 0]))] (cw_X9_init C h0 a1) := by
  intro sz
  refine Met.ofW (cc := cX9_init) (maxL := 2) (ret := none) (by decide) rfl ?_
  intro p e s m args below meth c s₁ B hml hv
  obtain ⟨rfl, hsz, hP, hK, hD0, hE, hX⟩ := hv
  have hx := B.exec
  have hb := B.bytes
  have hr := B.returns
  have hts0 := atoms_spec (ws := .code yX9_init cX9_init 2 none :: gw) B.pre
  have hts : ∀ w ∈ gw, w.before _ s = true := fun w9 h9 => hts0 w9 (List.mem_cons_of_mem _ h9)
  have hown : s.vm.findClass RX9 = some m.cls := findClass_of_methodNamed B.named
  have hlocks := B.notSynchronized
  have hin : meth.name = "<init>" := (name_of_methodNamed B.named B.method).1
  subst hsz
  have hD := hD0.self (sz := s.heap.size)
  generalize hAe : va_A [(h0, .inr (9, [.null, .null, .int 0, .int 0, .int 0, .int 0, .int 0]))] s.heap.size = A at hD hX ⊢
  have hA : ∀ q : Nat, s.heap.size ≤ q → A q := fun q h => by rw [← hAe]; exact Or.inr h
  have hS : va_S A s.heap s.heap [] := va_S.rf
  have hl := lv_entry ([.ref h0, .ref a1]) (n := 2) (Nat.le_of_ble_eq_true rfl)
  rw [lg_entry_eq]
  generalize (lg_sl ([.ref h0, .ref a1]) ++ List.replicate (2 - (lg_sl ([.ref h0, .ref a1])).length) Slot.unset).toArray = ls at hl ⊢
  have hl : lv_has ls 2 [(0, .ref h0), (1, .ref a1)] := hl
  refine lv_aload_n hx hb dX9_init_0 rfl (lv_at hl 0 rfl) ?_
  refine W.objInit hx hb hown (hts _ lm_X9_3) (hts _ wo_1) (hts _ wo_2) rfl (by rw [hml]; exact hl.1) rfl dX9_init_1 (Nat.le_of_ble_eq_true rfl) (Nat.le_of_ble_eq_true rfl) ?_
  refine W.eq (g2 := F0 m 4 ls []) rfl ?_
  refine lv_aload_n hx hb dX9_init_4 rfl (lv_at hl 0 rfl) ?_
  refine lv_sipush (v := 160) hx hb dX9_init_5 (by decide) ?_
  refine e_newI (n := 160) (N' := 160) hx hb hts wa_int hK hP hD hS hA (by decide) (by decide) (by decide) (Nat.le_of_ble_eq_true rfl) (Nat.le_of_ble_eq_true rfl) dX9_init_8 (fun q1 H hP hD hS => ?_)
  have hP : va_P D classes [(h0, .inr (9, [.null, .null, .int 0, .int 0, .int 0, .int 0, .int 0])), (q1, .inl (C 0, 160, .inl (fun _ => 0)))] H := hP
  have hD : va_D A [(h0, .inr (9, [.null, .null, .int 0, .int 0, .int 0, .int 0, .int 0])), (q1, .inl (C 0, 160, .inl (fun _ => 0)))] := hD
  refine va_putF (ci := 9) (v := .ref q1) (ty := .array (.int)) (C := RX9) (T := TX9) (N := 7) hx hb hts clX9.ws tyX9 tyX9_ok nmX9 hown hK hP hD hS 0 rfl rfl 1 (by decide) (hts _ lf_X9_9) (fun _ h9 => h9) rfl hin rfl (by decide +kernel) rfl rfl (Nat.le_of_ble_eq_true rfl) dX9_init_10 (fun H locs hP hD hS => ?_)
  have hP : va_P D classes [(h0, .inr (9, [.null, .ref q1, .int 0, .int 0, .int 0, .int 0, .int 0])), (q1, .inl (C 0, 160, .inl (fun _ => 0)))] H := hP
  have hD : va_D A [(h0, .inr (9, [.null, .ref q1, .int 0, .int 0, .int 0, .int 0, .int 0])), (q1, .inl (C 0, 160, .inl (fun _ => 0)))] := hD
  refine lv_aload_n hx hb dX9_init_13 rfl (lv_at hl 0 rfl) ?_
  refine lv_aload_n hx hb dX9_init_14 rfl (lv_at hl 1 rfl) ?_
  refine va_putF (ci := 9) (v := .ref a1) (ty := .object "EightOars$Tape") (C := RX9) (T := TX9) (N := 7) hx hb hts clX9.ws tyX9 tyX9_ok nmX9 hown hK hP hD hS 0 rfl rfl 0 (by decide) (hts _ lf_X9_15) (fun _ h9 => h9) rfl hin rfl (by decide +kernel) rfl rfl (Nat.le_of_ble_eq_true rfl) dX9_init_15 (fun H locs hP hD hS => ?_)
  have hP : va_P D classes [(h0, .inr (9, [.ref a1, .ref q1, .int 0, .int 0, .int 0, .int 0, .int 0])), (q1, .inl (C 0, 160, .inl (fun _ => 0)))] H := hP
  have hD : va_D A [(h0, .inr (9, [.ref a1, .ref q1, .int 0, .int 0, .int 0, .int 0, .int 0])), (q1, .inl (C 0, 160, .inl (fun _ => 0)))] := hD
  exact W.vret hx hb hr (fun t ht hW => ⟨⟨(fun k => [(fun i => [q1].getD i 0)].getD k (fun _ => 0)), rfl, trivial, by rw [ht]; exact hP, va_K.moved hW.alike hK, hD⟩, hS.F ht⟩) hS.2.2 dX9_init_18
set_option maxHeartbeats 4000000 in
set_option maxRecDepth 100000 in
theorem i_X1_init {KV : (Nat → Nat) × (Nat → Nat)} {l : Launch} {D : va_G} {C : Nat → ClassId} (h0 : Nat) (a1 : Nat) (a2 : Nat) : MtC KV l yX1_init cX1_init 3 1 5 198 12 D C [.ref h0, .ref a1, .ref a2] [(h0, .inr (1, [.null, .null, .null, .null, .null, .null, .null, .int 0, .int 0, .null, .int 0, .long 0, .long 0, .long 0, .long 0]))] (cw_X1_init C h0 a1 a2) := by
  intro sz
  refine Met.ofW (cc := cX1_init) (maxL := 3) (ret := none) (by decide) rfl ?_
  intro p e s m args below meth c s₁ B hml hv
  obtain ⟨rfl, hsz, hP, hK, hD0, hE, hX⟩ := hv
  have hx := B.exec
  have hb := B.bytes
  have hr := B.returns
  have hts0 := atoms_spec (ws := .code yX1_init cX1_init 3 none :: gw) B.pre
  have hts : ∀ w ∈ gw, w.before _ s = true := fun w9 h9 => hts0 w9 (List.mem_cons_of_mem _ h9)
  have hown : s.vm.findClass RX1 = some m.cls := findClass_of_methodNamed B.named
  have hlocks := B.notSynchronized
  have hin : meth.name = "<init>" := (name_of_methodNamed B.named B.method).1
  subst hsz
  have hD := hD0.self (sz := s.heap.size)
  generalize hAe : va_A [(h0, .inr (1, [.null, .null, .null, .null, .null, .null, .null, .int 0, .int 0, .null, .int 0, .long 0, .long 0, .long 0, .long 0]))] s.heap.size = A at hD hX ⊢
  have hA : ∀ q : Nat, s.heap.size ≤ q → A q := fun q h => by rw [← hAe]; exact Or.inr h
  have hS : va_S A s.heap s.heap [] := va_S.rf
  have hl := lv_entry ([.ref h0, .ref a1, .ref a2]) (n := 3) (Nat.le_of_ble_eq_true rfl)
  rw [lg_entry_eq]
  generalize (lg_sl ([.ref h0, .ref a1, .ref a2]) ++ List.replicate (3 - (lg_sl ([.ref h0, .ref a1, .ref a2])).length) Slot.unset).toArray = ls at hl ⊢
  have hl : lv_has ls 3 [(0, .ref h0), (1, .ref a1), (2, .ref a2)] := hl
  refine lv_aload_n hx hb dX1_init_0 rfl (lv_at hl 0 rfl) ?_
  refine W.objInit hx hb hown (hts _ lm_X1_3) (hts _ wo_1) (hts _ wo_2) rfl (by rw [hml]; exact hl.1) rfl dX1_init_1 (Nat.le_of_ble_eq_true rfl) (Nat.le_of_ble_eq_true rfl) ?_
  refine W.eq (g2 := F0 m 4 ls []) rfl ?_
  refine lv_aload_n hx hb dX1_init_4 rfl (lv_at hl 0 rfl) ?_
  refine lv_bipush (v := 8) hx hb dX1_init_5 (by decide) ?_
  refine e_newI (n := 8) (N' := 8) hx hb hts wa_int hK hP hD hS hA (by decide) (by decide) (by decide) (Nat.le_of_ble_eq_true rfl) (Nat.le_of_ble_eq_true rfl) dX1_init_7 (fun q1 H hP hD hS => ?_)
  have hP : va_P D classes [(h0, .inr (1, [.null, .null, .null, .null, .null, .null, .null, .int 0, .int 0, .null, .int 0, .long 0, .long 0, .long 0, .long 0])), (q1, .inl (C 0, 8, .inl (fun _ => 0)))] H := hP
  have hD : va_D A [(h0, .inr (1, [.null, .null, .null, .null, .null, .null, .null, .int 0, .int 0, .null, .int 0, .long 0, .long 0, .long 0, .long 0])), (q1, .inl (C 0, 8, .inl (fun _ => 0)))] := hD
  refine va_putF (ci := 1) (v := .ref q1) (ty := .array (.int)) (C := RX1) (T := TX1) (N := 15) hx hb hts clX1.ws tyX1 tyX1_ok nmX1 hown hK hP hD hS 0 rfl rfl 3 (by decide) (hts _ lf_X1_9) (fun _ h9 => h9) rfl hin rfl (by decide +kernel) rfl rfl (Nat.le_of_ble_eq_true rfl) dX1_init_9 (fun H locs hP hD hS => ?_)
  have hP : va_P D classes [(h0, .inr (1, [.null, .null, .null, .ref q1, .null, .null, .null, .int 0, .int 0, .null, .int 0, .long 0, .long 0, .long 0, .long 0])), (q1, .inl (C 0, 8, .inl (fun _ => 0)))] H := hP
  have hD : va_D A [(h0, .inr (1, [.null, .null, .null, .ref q1, .null, .null, .null, .int 0, .int 0, .null, .int 0, .long 0, .long 0, .long 0, .long 0])), (q1, .inl (C 0, 8, .inl (fun _ => 0)))] := hD
  refine lv_aload_n hx hb dX1_init_12 rfl (lv_at hl 0 rfl) ?_
  refine lv_bipush (v := 8) hx hb dX1_init_13 (by decide) ?_
  refine e_newI (n := 8) (N' := 8) hx hb hts wa_int hK hP hD hS hA (by decide) (by decide) (by decide) (Nat.le_of_ble_eq_true rfl) (Nat.le_of_ble_eq_true rfl) dX1_init_15 (fun q2 H hP hD hS => ?_)
  have hP : va_P D classes [(h0, .inr (1, [.null, .null, .null, .ref q1, .null, .null, .null, .int 0, .int 0, .null, .int 0, .long 0, .long 0, .long 0, .long 0])), (q1, .inl (C 0, 8, .inl (fun _ => 0))), (q2, .inl (C 0, 8, .inl (fun _ => 0)))] H := hP
  have hD : va_D A [(h0, .inr (1, [.null, .null, .null, .ref q1, .null, .null, .null, .int 0, .int 0, .null, .int 0, .long 0, .long 0, .long 0, .long 0])), (q1, .inl (C 0, 8, .inl (fun _ => 0))), (q2, .inl (C 0, 8, .inl (fun _ => 0)))] := hD
  refine va_putF (ci := 1) (v := .ref q2) (ty := .array (.int)) (C := RX1) (T := TX1) (N := 15) hx hb hts clX1.ws tyX1 tyX1_ok nmX1 hown hK hP hD hS 0 rfl rfl 4 (by decide) (hts _ lf_X1_15) (fun _ h9 => h9) rfl hin rfl (by decide +kernel) rfl rfl (Nat.le_of_ble_eq_true rfl) dX1_init_17 (fun H locs hP hD hS => ?_)
  have hP : va_P D classes [(h0, .inr (1, [.null, .null, .null, .ref q1, .ref q2, .null, .null, .int 0, .int 0, .null, .int 0, .long 0, .long 0, .long 0, .long 0])), (q1, .inl (C 0, 8, .inl (fun _ => 0))), (q2, .inl (C 0, 8, .inl (fun _ => 0)))] H := hP
  have hD : va_D A [(h0, .inr (1, [.null, .null, .null, .ref q1, .ref q2, .null, .null, .int 0, .int 0, .null, .int 0, .long 0, .long 0, .long 0, .long 0])), (q1, .inl (C 0, 8, .inl (fun _ => 0))), (q2, .inl (C 0, 8, .inl (fun _ => 0)))] := hD
  refine lv_aload_n hx hb dX1_init_20 rfl (lv_at hl 0 rfl) ?_
  refine lv_bipush (v := 6) hx hb dX1_init_21 (by decide) ?_
  refine e_newI (n := 6) (N' := 6) hx hb hts wa_int hK hP hD hS hA (by decide) (by decide) (by decide) (Nat.le_of_ble_eq_true rfl) (Nat.le_of_ble_eq_true rfl) dX1_init_23 (fun q3 H hP hD hS => ?_)
  have hP : va_P D classes [(h0, .inr (1, [.null, .null, .null, .ref q1, .ref q2, .null, .null, .int 0, .int 0, .null, .int 0, .long 0, .long 0, .long 0, .long 0])), (q1, .inl (C 0, 8, .inl (fun _ => 0))), (q2, .inl (C 0, 8, .inl (fun _ => 0))), (q3, .inl (C 0, 6, .inl (fun _ => 0)))] H := hP
  have hD : va_D A [(h0, .inr (1, [.null, .null, .null, .ref q1, .ref q2, .null, .null, .int 0, .int 0, .null, .int 0, .long 0, .long 0, .long 0, .long 0])), (q1, .inl (C 0, 8, .inl (fun _ => 0))), (q2, .inl (C 0, 8, .inl (fun _ => 0))), (q3, .inl (C 0, 6, .inl (fun _ => 0)))] := hD
  refine va_putF (ci := 1) (v := .ref q3) (ty := .array (.int)) (C := RX1) (T := TX1) (N := 15) hx hb hts clX1.ws tyX1 tyX1_ok nmX1 hown hK hP hD hS 0 rfl rfl 5 (by decide) (hts _ lf_X1_20) (fun _ h9 => h9) rfl hin rfl (by decide +kernel) rfl rfl (Nat.le_of_ble_eq_true rfl) dX1_init_25 (fun H locs hP hD hS => ?_)
  have hP : va_P D classes [(h0, .inr (1, [.null, .null, .null, .ref q1, .ref q2, .ref q3, .null, .int 0, .int 0, .null, .int 0, .long 0, .long 0, .long 0, .long 0])), (q1, .inl (C 0, 8, .inl (fun _ => 0))), (q2, .inl (C 0, 8, .inl (fun _ => 0))), (q3, .inl (C 0, 6, .inl (fun _ => 0)))] H := hP
  have hD : va_D A [(h0, .inr (1, [.null, .null, .null, .ref q1, .ref q2, .ref q3, .null, .int 0, .int 0, .null, .int 0, .long 0, .long 0, .long 0, .long 0])), (q1, .inl (C 0, 8, .inl (fun _ => 0))), (q2, .inl (C 0, 8, .inl (fun _ => 0))), (q3, .inl (C 0, 6, .inl (fun _ => 0)))] := hD
  refine lv_aload_n hx hb dX1_init_28 rfl (lv_at hl 0 rfl) ?_
  refine lv_sipush (v := 160) hx hb dX1_init_29 (by decide) ?_
  refine e_newI (n := 160) (N' := 160) hx hb hts wa_int hK hP hD hS hA (by decide) (by decide) (by decide) (Nat.le_of_ble_eq_true rfl) (Nat.le_of_ble_eq_true rfl) dX1_init_32 (fun q4 H hP hD hS => ?_)
  have hP : va_P D classes [(h0, .inr (1, [.null, .null, .null, .ref q1, .ref q2, .ref q3, .null, .int 0, .int 0, .null, .int 0, .long 0, .long 0, .long 0, .long 0])), (q1, .inl (C 0, 8, .inl (fun _ => 0))), (q2, .inl (C 0, 8, .inl (fun _ => 0))), (q3, .inl (C 0, 6, .inl (fun _ => 0))), (q4, .inl (C 0, 160, .inl (fun _ => 0)))] H := hP
  have hD : va_D A [(h0, .inr (1, [.null, .null, .null, .ref q1, .ref q2, .ref q3, .null, .int 0, .int 0, .null, .int 0, .long 0, .long 0, .long 0, .long 0])), (q1, .inl (C 0, 8, .inl (fun _ => 0))), (q2, .inl (C 0, 8, .inl (fun _ => 0))), (q3, .inl (C 0, 6, .inl (fun _ => 0))), (q4, .inl (C 0, 160, .inl (fun _ => 0)))] := hD
  refine va_putF (ci := 1) (v := .ref q4) (ty := .array (.int)) (C := RX1) (T := TX1) (N := 15) hx hb hts clX1.ws tyX1 tyX1_ok nmX1 hown hK hP hD hS 0 rfl rfl 6 (by decide) (hts _ lf_X1_23) (fun _ h9 => h9) rfl hin rfl (by decide +kernel) rfl rfl (Nat.le_of_ble_eq_true rfl) dX1_init_34 (fun H locs hP hD hS => ?_)
  have hP : va_P D classes [(h0, .inr (1, [.null, .null, .null, .ref q1, .ref q2, .ref q3, .ref q4, .int 0, .int 0, .null, .int 0, .long 0, .long 0, .long 0, .long 0])), (q1, .inl (C 0, 8, .inl (fun _ => 0))), (q2, .inl (C 0, 8, .inl (fun _ => 0))), (q3, .inl (C 0, 6, .inl (fun _ => 0))), (q4, .inl (C 0, 160, .inl (fun _ => 0)))] H := hP
  have hD : va_D A [(h0, .inr (1, [.null, .null, .null, .ref q1, .ref q2, .ref q3, .ref q4, .int 0, .int 0, .null, .int 0, .long 0, .long 0, .long 0, .long 0])), (q1, .inl (C 0, 8, .inl (fun _ => 0))), (q2, .inl (C 0, 8, .inl (fun _ => 0))), (q3, .inl (C 0, 6, .inl (fun _ => 0))), (q4, .inl (C 0, 160, .inl (fun _ => 0)))] := hD
  refine lv_aload_n hx hb dX1_init_37 rfl (lv_at hl 0 rfl) ?_
  refine lv_bipush (v := 16) hx hb dX1_init_38 (by decide) ?_
  refine e_newI (n := 16) (N' := 16) hx hb hts wa_int hK hP hD hS hA (by decide) (by decide) (by decide) (Nat.le_of_ble_eq_true rfl) (Nat.le_of_ble_eq_true rfl) dX1_init_40 (fun q5 H hP hD hS => ?_)
  have hP : va_P D classes [(h0, .inr (1, [.null, .null, .null, .ref q1, .ref q2, .ref q3, .ref q4, .int 0, .int 0, .null, .int 0, .long 0, .long 0, .long 0, .long 0])), (q1, .inl (C 0, 8, .inl (fun _ => 0))), (q2, .inl (C 0, 8, .inl (fun _ => 0))), (q3, .inl (C 0, 6, .inl (fun _ => 0))), (q4, .inl (C 0, 160, .inl (fun _ => 0))), (q5, .inl (C 0, 16, .inl (fun _ => 0)))] H := hP
  have hD : va_D A [(h0, .inr (1, [.null, .null, .null, .ref q1, .ref q2, .ref q3, .ref q4, .int 0, .int 0, .null, .int 0, .long 0, .long 0, .long 0, .long 0])), (q1, .inl (C 0, 8, .inl (fun _ => 0))), (q2, .inl (C 0, 8, .inl (fun _ => 0))), (q3, .inl (C 0, 6, .inl (fun _ => 0))), (q4, .inl (C 0, 160, .inl (fun _ => 0))), (q5, .inl (C 0, 16, .inl (fun _ => 0)))] := hD
  refine va_putF (ci := 1) (v := .ref q5) (ty := .array (.int)) (C := RX1) (T := TX1) (N := 15) hx hb hts clX1.ws tyX1 tyX1_ok nmX1 hown hK hP hD hS 0 rfl rfl 9 (by decide) (hts _ lf_X1_26) (fun _ h9 => h9) rfl hin rfl (by decide +kernel) rfl rfl (Nat.le_of_ble_eq_true rfl) dX1_init_42 (fun H locs hP hD hS => ?_)
  have hP : va_P D classes [(h0, .inr (1, [.null, .null, .null, .ref q1, .ref q2, .ref q3, .ref q4, .int 0, .int 0, .ref q5, .int 0, .long 0, .long 0, .long 0, .long 0])), (q1, .inl (C 0, 8, .inl (fun _ => 0))), (q2, .inl (C 0, 8, .inl (fun _ => 0))), (q3, .inl (C 0, 6, .inl (fun _ => 0))), (q4, .inl (C 0, 160, .inl (fun _ => 0))), (q5, .inl (C 0, 16, .inl (fun _ => 0)))] H := hP
  have hD : va_D A [(h0, .inr (1, [.null, .null, .null, .ref q1, .ref q2, .ref q3, .ref q4, .int 0, .int 0, .ref q5, .int 0, .long 0, .long 0, .long 0, .long 0])), (q1, .inl (C 0, 8, .inl (fun _ => 0))), (q2, .inl (C 0, 8, .inl (fun _ => 0))), (q3, .inl (C 0, 6, .inl (fun _ => 0))), (q4, .inl (C 0, 160, .inl (fun _ => 0))), (q5, .inl (C 0, 16, .inl (fun _ => 0)))] := hD
  refine lv_aload_n hx hb dX1_init_45 rfl (lv_at hl 0 rfl) ?_
  refine lv_aload_n hx hb dX1_init_46 rfl (lv_at hl 1 rfl) ?_
  refine va_putF (ci := 1) (v := .ref a1) (ty := .object "EightOars$Crew") (C := RX1) (T := TX1) (N := 15) hx hb hts clX1.ws tyX1 tyX1_ok nmX1 hown hK hP hD hS 0 rfl rfl 0 (by decide) (hts _ lf_X1_29) (fun _ h9 => h9) rfl hin rfl (by decide +kernel) rfl rfl (Nat.le_of_ble_eq_true rfl) dX1_init_47 (fun H locs hP hD hS => ?_)
  have hP : va_P D classes [(h0, .inr (1, [.ref a1, .null, .null, .ref q1, .ref q2, .ref q3, .ref q4, .int 0, .int 0, .ref q5, .int 0, .long 0, .long 0, .long 0, .long 0])), (q1, .inl (C 0, 8, .inl (fun _ => 0))), (q2, .inl (C 0, 8, .inl (fun _ => 0))), (q3, .inl (C 0, 6, .inl (fun _ => 0))), (q4, .inl (C 0, 160, .inl (fun _ => 0))), (q5, .inl (C 0, 16, .inl (fun _ => 0)))] H := hP
  have hD : va_D A [(h0, .inr (1, [.ref a1, .null, .null, .ref q1, .ref q2, .ref q3, .ref q4, .int 0, .int 0, .ref q5, .int 0, .long 0, .long 0, .long 0, .long 0])), (q1, .inl (C 0, 8, .inl (fun _ => 0))), (q2, .inl (C 0, 8, .inl (fun _ => 0))), (q3, .inl (C 0, 6, .inl (fun _ => 0))), (q4, .inl (C 0, 160, .inl (fun _ => 0))), (q5, .inl (C 0, 16, .inl (fun _ => 0)))] := hD
  refine lv_aload_n hx hb dX1_init_50 rfl (lv_at hl 0 rfl) ?_
  refine lv_aload_n hx hb dX1_init_51 rfl (lv_at hl 2 rfl) ?_
  refine va_putF (ci := 1) (v := .ref a2) (ty := .object "EightOars$Boat") (C := RX1) (T := TX1) (N := 15) hx hb hts clX1.ws tyX1 tyX1_ok nmX1 hown hK hP hD hS 0 rfl rfl 1 (by decide) (hts _ lf_X1_33) (fun _ h9 => h9) rfl hin rfl (by decide +kernel) rfl rfl (Nat.le_of_ble_eq_true rfl) dX1_init_52 (fun H locs hP hD hS => ?_)
  have hP : va_P D classes [(h0, .inr (1, [.ref a1, .ref a2, .null, .ref q1, .ref q2, .ref q3, .ref q4, .int 0, .int 0, .ref q5, .int 0, .long 0, .long 0, .long 0, .long 0])), (q1, .inl (C 0, 8, .inl (fun _ => 0))), (q2, .inl (C 0, 8, .inl (fun _ => 0))), (q3, .inl (C 0, 6, .inl (fun _ => 0))), (q4, .inl (C 0, 160, .inl (fun _ => 0))), (q5, .inl (C 0, 16, .inl (fun _ => 0)))] H := hP
  have hD : va_D A [(h0, .inr (1, [.ref a1, .ref a2, .null, .ref q1, .ref q2, .ref q3, .ref q4, .int 0, .int 0, .ref q5, .int 0, .long 0, .long 0, .long 0, .long 0])), (q1, .inl (C 0, 8, .inl (fun _ => 0))), (q2, .inl (C 0, 8, .inl (fun _ => 0))), (q3, .inl (C 0, 6, .inl (fun _ => 0))), (q4, .inl (C 0, 160, .inl (fun _ => 0))), (q5, .inl (C 0, 16, .inl (fun _ => 0)))] := hD
  exact W.vret hx hb hr (fun t ht hW => ⟨⟨(fun k => [(fun i => [q1, q2, q3, q4, q5].getD i 0)].getD k (fun _ => 0)), rfl, trivial, by rw [ht]; exact hP, va_K.moved hW.alike hK, hD⟩, hS.F ht⟩) hS.2.2 dX1_init_55
set_option maxHeartbeats 4000000 in
set_option maxRecDepth 100000 in
theorem i_X4_init {KV : (Nat → Nat) × (Nat → Nat)} {l : Launch} {D : va_G} {C : Nat → ClassId} (h0 : Nat) (a1 : Nat) : MtC KV l yX4_init cX4_init 2 1 10 1616 12 D C [.ref h0, .ref a1] [(h0, .inr (4, [.null, .null, .null, .int 0]))] (cw_X4_init C h0 a1) := by
  intro sz
  refine Met.ofW (cc := cX4_init) (maxL := 2) (ret := none) (by decide) rfl ?_
  intro p e s m args below meth c s₁ B hml hv
  obtain ⟨rfl, hsz, hP, hK, hD0, hE, hX⟩ := hv
  have hx := B.exec
  have hb := B.bytes
  have hr := B.returns
  have hts0 := atoms_spec (ws := .code yX4_init cX4_init 2 none :: gw) B.pre
  have hts : ∀ w ∈ gw, w.before _ s = true := fun w9 h9 => hts0 w9 (List.mem_cons_of_mem _ h9)
  have hown : s.vm.findClass RX4 = some m.cls := findClass_of_methodNamed B.named
  have hlocks := B.notSynchronized
  have hin : meth.name = "<init>" := (name_of_methodNamed B.named B.method).1
  subst hsz
  have hD := hD0.self (sz := s.heap.size)
  generalize hAe : va_A [(h0, .inr (4, [.null, .null, .null, .int 0]))] s.heap.size = A at hD hX ⊢
  have hA : ∀ q : Nat, s.heap.size ≤ q → A q := fun q h => by rw [← hAe]; exact Or.inr h
  have hS : va_S A s.heap s.heap [] := va_S.rf
  have hl := lv_entry ([.ref h0, .ref a1]) (n := 2) (Nat.le_of_ble_eq_true rfl)
  rw [lg_entry_eq]
  generalize (lg_sl ([.ref h0, .ref a1]) ++ List.replicate (2 - (lg_sl ([.ref h0, .ref a1])).length) Slot.unset).toArray = ls at hl ⊢
  have hl : lv_has ls 2 [(0, .ref h0), (1, .ref a1)] := hl
  refine lv_aload_n hx hb dX4_init_0 rfl (lv_at hl 0 rfl) ?_
  refine W.objInit hx hb hown (hts _ lm_X4_3) (hts _ wo_1) (hts _ wo_2) rfl (by rw [hml]; exact hl.1) rfl dX4_init_1 (Nat.le_of_ble_eq_true rfl) (Nat.le_of_ble_eq_true rfl) ?_
  refine W.eq (g2 := F0 m 4 ls []) rfl ?_
  refine lv_aload_n hx hb dX4_init_4 rfl (lv_at hl 0 rfl) ?_
  refine lv_bipush (v := 8) hx hb dX4_init_5 (by decide) ?_
  refine lv_sipush (v := 200) hx hb dX4_init_7 (by decide) ?_
  refine e_newM (n := 8) (k := 200) (N' := 8) (K' := 200) hx hb hown (hts _ lk_X4_11) hE.1 hts wa_int hK hP hD hS hA (by decide) (by decide) (by decide) (by decide) (by decide) (by decide) (by decide) (Nat.le_of_ble_eq_true rfl) (Nat.le_of_ble_eq_true rfl) dX4_init_10 (fun q1 r1 H hP hD hS => ?_)
  have hP : va_P D classes [(h0, .inr (4, [.null, .null, .null, .int 0])), (q1, .inl (C 4, 8, .inr (.inr (.inr (.inr (fun i => if i < 8 then some (r1 i) else none)))))), ((r1 0), .inl (C 0, 200, .inl (fun _ => 0))), ((r1 1), .inl (C 0, 200, .inl (fun _ => 0))), ((r1 2), .inl (C 0, 200, .inl (fun _ => 0))), ((r1 3), .inl (C 0, 200, .inl (fun _ => 0))), ((r1 4), .inl (C 0, 200, .inl (fun _ => 0))), ((r1 5), .inl (C 0, 200, .inl (fun _ => 0))), ((r1 6), .inl (C 0, 200, .inl (fun _ => 0))), ((r1 7), .inl (C 0, 200, .inl (fun _ => 0)))] H := hP
  have hD : va_D A [(h0, .inr (4, [.null, .null, .null, .int 0])), (q1, .inl (C 4, 8, .inr (.inr (.inr (.inr (fun i => if i < 8 then some (r1 i) else none)))))), ((r1 0), .inl (C 0, 200, .inl (fun _ => 0))), ((r1 1), .inl (C 0, 200, .inl (fun _ => 0))), ((r1 2), .inl (C 0, 200, .inl (fun _ => 0))), ((r1 3), .inl (C 0, 200, .inl (fun _ => 0))), ((r1 4), .inl (C 0, 200, .inl (fun _ => 0))), ((r1 5), .inl (C 0, 200, .inl (fun _ => 0))), ((r1 6), .inl (C 0, 200, .inl (fun _ => 0))), ((r1 7), .inl (C 0, 200, .inl (fun _ => 0)))] := hD
  refine va_putF (ci := 4) (v := .ref q1) (ty := .array (.array (.int))) (C := RX4) (T := TX4) (N := 4) hx hb hts clX4.ws tyX4 tyX4_ok nmX4 hown hK hP hD hS 0 rfl rfl 1 (by decide) (hts _ lf_X4_13) (fun _ h9 => h9) rfl hin rfl (by decide +kernel) rfl rfl (Nat.le_of_ble_eq_true rfl) dX4_init_14 (fun H locs hP hD hS => ?_)
  have hP : va_P D classes [(h0, .inr (4, [.null, .ref q1, .null, .int 0])), (q1, .inl (C 4, 8, .inr (.inr (.inr (.inr (fun i => if i < 8 then some (r1 i) else none)))))), ((r1 0), .inl (C 0, 200, .inl (fun _ => 0))), ((r1 1), .inl (C 0, 200, .inl (fun _ => 0))), ((r1 2), .inl (C 0, 200, .inl (fun _ => 0))), ((r1 3), .inl (C 0, 200, .inl (fun _ => 0))), ((r1 4), .inl (C 0, 200, .inl (fun _ => 0))), ((r1 5), .inl (C 0, 200, .inl (fun _ => 0))), ((r1 6), .inl (C 0, 200, .inl (fun _ => 0))), ((r1 7), .inl (C 0, 200, .inl (fun _ => 0)))] H := hP
  have hD : va_D A [(h0, .inr (4, [.null, .ref q1, .null, .int 0])), (q1, .inl (C 4, 8, .inr (.inr (.inr (.inr (fun i => if i < 8 then some (r1 i) else none)))))), ((r1 0), .inl (C 0, 200, .inl (fun _ => 0))), ((r1 1), .inl (C 0, 200, .inl (fun _ => 0))), ((r1 2), .inl (C 0, 200, .inl (fun _ => 0))), ((r1 3), .inl (C 0, 200, .inl (fun _ => 0))), ((r1 4), .inl (C 0, 200, .inl (fun _ => 0))), ((r1 5), .inl (C 0, 200, .inl (fun _ => 0))), ((r1 6), .inl (C 0, 200, .inl (fun _ => 0))), ((r1 7), .inl (C 0, 200, .inl (fun _ => 0)))] := hD
  refine lv_aload_n hx hb dX4_init_17 rfl (lv_at hl 0 rfl) ?_
  refine lv_bipush (v := 8) hx hb dX4_init_18 (by decide) ?_
  refine e_newI (n := 8) (N' := 8) hx hb hts wa_int hK hP hD hS hA (by decide) (by decide) (by decide) (Nat.le_of_ble_eq_true rfl) (Nat.le_of_ble_eq_true rfl) dX4_init_20 (fun q2 H hP hD hS => ?_)
  have hP : va_P D classes [(h0, .inr (4, [.null, .ref q1, .null, .int 0])), (q1, .inl (C 4, 8, .inr (.inr (.inr (.inr (fun i => if i < 8 then some (r1 i) else none)))))), ((r1 0), .inl (C 0, 200, .inl (fun _ => 0))), ((r1 1), .inl (C 0, 200, .inl (fun _ => 0))), ((r1 2), .inl (C 0, 200, .inl (fun _ => 0))), ((r1 3), .inl (C 0, 200, .inl (fun _ => 0))), ((r1 4), .inl (C 0, 200, .inl (fun _ => 0))), ((r1 5), .inl (C 0, 200, .inl (fun _ => 0))), ((r1 6), .inl (C 0, 200, .inl (fun _ => 0))), ((r1 7), .inl (C 0, 200, .inl (fun _ => 0))), (q2, .inl (C 0, 8, .inl (fun _ => 0)))] H := hP
  have hD : va_D A [(h0, .inr (4, [.null, .ref q1, .null, .int 0])), (q1, .inl (C 4, 8, .inr (.inr (.inr (.inr (fun i => if i < 8 then some (r1 i) else none)))))), ((r1 0), .inl (C 0, 200, .inl (fun _ => 0))), ((r1 1), .inl (C 0, 200, .inl (fun _ => 0))), ((r1 2), .inl (C 0, 200, .inl (fun _ => 0))), ((r1 3), .inl (C 0, 200, .inl (fun _ => 0))), ((r1 4), .inl (C 0, 200, .inl (fun _ => 0))), ((r1 5), .inl (C 0, 200, .inl (fun _ => 0))), ((r1 6), .inl (C 0, 200, .inl (fun _ => 0))), ((r1 7), .inl (C 0, 200, .inl (fun _ => 0))), (q2, .inl (C 0, 8, .inl (fun _ => 0)))] := hD
  refine va_putF (ci := 4) (v := .ref q2) (ty := .array (.int)) (C := RX4) (T := TX4) (N := 4) hx hb hts clX4.ws tyX4 tyX4_ok nmX4 hown hK hP hD hS 0 rfl rfl 2 (by decide) (hts _ lf_X4_16) (fun _ h9 => h9) rfl hin rfl (by decide +kernel) rfl rfl (Nat.le_of_ble_eq_true rfl) dX4_init_22 (fun H locs hP hD hS => ?_)
  have hP : va_P D classes [(h0, .inr (4, [.null, .ref q1, .ref q2, .int 0])), (q1, .inl (C 4, 8, .inr (.inr (.inr (.inr (fun i => if i < 8 then some (r1 i) else none)))))), ((r1 0), .inl (C 0, 200, .inl (fun _ => 0))), ((r1 1), .inl (C 0, 200, .inl (fun _ => 0))), ((r1 2), .inl (C 0, 200, .inl (fun _ => 0))), ((r1 3), .inl (C 0, 200, .inl (fun _ => 0))), ((r1 4), .inl (C 0, 200, .inl (fun _ => 0))), ((r1 5), .inl (C 0, 200, .inl (fun _ => 0))), ((r1 6), .inl (C 0, 200, .inl (fun _ => 0))), ((r1 7), .inl (C 0, 200, .inl (fun _ => 0))), (q2, .inl (C 0, 8, .inl (fun _ => 0)))] H := hP
  have hD : va_D A [(h0, .inr (4, [.null, .ref q1, .ref q2, .int 0])), (q1, .inl (C 4, 8, .inr (.inr (.inr (.inr (fun i => if i < 8 then some (r1 i) else none)))))), ((r1 0), .inl (C 0, 200, .inl (fun _ => 0))), ((r1 1), .inl (C 0, 200, .inl (fun _ => 0))), ((r1 2), .inl (C 0, 200, .inl (fun _ => 0))), ((r1 3), .inl (C 0, 200, .inl (fun _ => 0))), ((r1 4), .inl (C 0, 200, .inl (fun _ => 0))), ((r1 5), .inl (C 0, 200, .inl (fun _ => 0))), ((r1 6), .inl (C 0, 200, .inl (fun _ => 0))), ((r1 7), .inl (C 0, 200, .inl (fun _ => 0))), (q2, .inl (C 0, 8, .inl (fun _ => 0)))] := hD
  refine lv_aload_n hx hb dX4_init_25 rfl (lv_at hl 0 rfl) ?_
  refine lv_aload_n hx hb dX4_init_26 rfl (lv_at hl 1 rfl) ?_
  refine va_putF (ci := 4) (v := .ref a1) (ty := .object "EightOars$Tape") (C := RX4) (T := TX4) (N := 4) hx hb hts clX4.ws tyX4 tyX4_ok nmX4 hown hK hP hD hS 0 rfl rfl 0 (by decide) (hts _ lf_X4_20) (fun _ h9 => h9) rfl hin rfl (by decide +kernel) rfl rfl (Nat.le_of_ble_eq_true rfl) dX4_init_27 (fun H locs hP hD hS => ?_)
  have hP : va_P D classes [(h0, .inr (4, [.ref a1, .ref q1, .ref q2, .int 0])), (q1, .inl (C 4, 8, .inr (.inr (.inr (.inr (fun i => if i < 8 then some (r1 i) else none)))))), ((r1 0), .inl (C 0, 200, .inl (fun _ => 0))), ((r1 1), .inl (C 0, 200, .inl (fun _ => 0))), ((r1 2), .inl (C 0, 200, .inl (fun _ => 0))), ((r1 3), .inl (C 0, 200, .inl (fun _ => 0))), ((r1 4), .inl (C 0, 200, .inl (fun _ => 0))), ((r1 5), .inl (C 0, 200, .inl (fun _ => 0))), ((r1 6), .inl (C 0, 200, .inl (fun _ => 0))), ((r1 7), .inl (C 0, 200, .inl (fun _ => 0))), (q2, .inl (C 0, 8, .inl (fun _ => 0)))] H := hP
  have hD : va_D A [(h0, .inr (4, [.ref a1, .ref q1, .ref q2, .int 0])), (q1, .inl (C 4, 8, .inr (.inr (.inr (.inr (fun i => if i < 8 then some (r1 i) else none)))))), ((r1 0), .inl (C 0, 200, .inl (fun _ => 0))), ((r1 1), .inl (C 0, 200, .inl (fun _ => 0))), ((r1 2), .inl (C 0, 200, .inl (fun _ => 0))), ((r1 3), .inl (C 0, 200, .inl (fun _ => 0))), ((r1 4), .inl (C 0, 200, .inl (fun _ => 0))), ((r1 5), .inl (C 0, 200, .inl (fun _ => 0))), ((r1 6), .inl (C 0, 200, .inl (fun _ => 0))), ((r1 7), .inl (C 0, 200, .inl (fun _ => 0))), (q2, .inl (C 0, 8, .inl (fun _ => 0)))] := hD
  exact W.vret hx hb hr (fun t ht hW => ⟨⟨(fun k => [(fun i => [q1, q2].getD i 0), r1].getD k (fun _ => 0)), rfl, trivial, by rw [ht]; exact hP, va_K.moved hW.alike hK, hD⟩, hS.F ht⟩) hS.2.2 dX4_init_30
set_option maxHeartbeats 4000000 in
set_option maxRecDepth 100000 in
theorem i_X7_init {KV : (Nat → Nat) × (Nat → Nat)} {l : Launch} {D : va_G} {C : Nat → ClassId} (h0 : Nat) : MtC KV l yX7_init cX7_init 1 1 7 172 12 D C [.ref h0] [(h0, .inr (7, [.null, .null, .null]))] (cw_X7_init C h0) := by
  intro sz
  refine Met.ofW (cc := cX7_init) (maxL := 1) (ret := none) (by decide) rfl ?_
  intro p e s m args below meth c s₁ B hml hv
  obtain ⟨rfl, hsz, hP, hK, hD0, hE, hX⟩ := hv
  have hx := B.exec
  have hb := B.bytes
  have hr := B.returns
  have hts0 := atoms_spec (ws := .code yX7_init cX7_init 1 none :: gw) B.pre
  have hts : ∀ w ∈ gw, w.before _ s = true := fun w9 h9 => hts0 w9 (List.mem_cons_of_mem _ h9)
  have hown : s.vm.findClass RX7 = some m.cls := findClass_of_methodNamed B.named
  have hlocks := B.notSynchronized
  have hin : meth.name = "<init>" := (name_of_methodNamed B.named B.method).1
  subst hsz
  have hD := hD0.self (sz := s.heap.size)
  generalize hAe : va_A [(h0, .inr (7, [.null, .null, .null]))] s.heap.size = A at hD hX ⊢
  have hA : ∀ q : Nat, s.heap.size ≤ q → A q := fun q h => by rw [← hAe]; exact Or.inr h
  have hS : va_S A s.heap s.heap [] := va_S.rf
  have hl := lv_entry ([.ref h0]) (n := 1) (Nat.le_of_ble_eq_true rfl)
  rw [lg_entry_eq]
  generalize (lg_sl ([.ref h0]) ++ List.replicate (1 - (lg_sl ([.ref h0])).length) Slot.unset).toArray = ls at hl ⊢
  have hl : lv_has ls 1 [(0, .ref h0)] := hl
  refine lv_aload_n hx hb dX7_init_0 rfl (lv_at hl 0 rfl) ?_
  refine W.objInit hx hb hown (hts _ lm_X7_1) (hts _ wo_1) (hts _ wo_2) rfl (by rw [hml]; exact hl.1) rfl dX7_init_1 (Nat.le_of_ble_eq_true rfl) (Nat.le_of_ble_eq_true rfl) ?_
  refine W.eq (g2 := F0 m 4 ls []) rfl ?_
  refine lv_aload_n hx hb dX7_init_4 rfl (lv_at hl 0 rfl) ?_
  refine lv_iconst (v := 4) hx hb dX7_init_5 (by decide) ?_
  refine e_newI (n := 4) (N' := 4) hx hb hts wa_int hK hP hD hS hA (by decide) (by decide) (by decide) (Nat.le_of_ble_eq_true rfl) (Nat.le_of_ble_eq_true rfl) dX7_init_6 (fun q1 H hP hD hS => ?_)
  have hP : va_P D classes [(h0, .inr (7, [.null, .null, .null])), (q1, .inl (C 0, 4, .inl (fun _ => 0)))] H := hP
  have hD : va_D A [(h0, .inr (7, [.null, .null, .null])), (q1, .inl (C 0, 4, .inl (fun _ => 0)))] := hD
  refine lv_dup hx hb dX7_init_8 rfl ?_
  refine lv_iconst (v := 0) hx hb dX7_init_9 (by decide) ?_
  refine lv_iconst (v := (-1)) hx hb dX7_init_10 (by decide) ?_
  refine va_iast hx hb hK hP hD hS 1 0 rfl rfl (i := 0) (x := (-1)) (show ¬ ((0 : Int32) < 0 ∨ 4 ≤ (0 : Int32).toNatClampNeg) by decide) dX7_init_11 (fun H locs hP hD hS => ?_)
  have hP : va_P D classes [(h0, .inr (7, [.null, .null, .null])), (q1, .inl (C 0, 4, .inl (upd (fun _ => 0) 0 (-1))))] H := hP
  have hD : va_D A [(h0, .inr (7, [.null, .null, .null])), (q1, .inl (C 0, 4, .inl (upd (fun _ => 0) 0 (-1))))] := hD
  refine lv_dup hx hb dX7_init_12 rfl ?_
  refine lv_iconst (v := 1) hx hb dX7_init_13 (by decide) ?_
  refine lv_iconst (v := (-1)) hx hb dX7_init_14 (by decide) ?_
  refine va_iast hx hb hK hP hD hS 1 0 rfl rfl (i := 1) (x := (-1)) (show ¬ ((1 : Int32) < 0 ∨ 4 ≤ (1 : Int32).toNatClampNeg) by decide) dX7_init_15 (fun H locs hP hD hS => ?_)
  have hP : va_P D classes [(h0, .inr (7, [.null, .null, .null])), (q1, .inl (C 0, 4, .inl (upd (upd (fun _ => 0) 0 (-1)) 1 (-1))))] H := hP
  have hD : va_D A [(h0, .inr (7, [.null, .null, .null])), (q1, .inl (C 0, 4, .inl (upd (upd (fun _ => 0) 0 (-1)) 1 (-1))))] := hD
  refine lv_dup hx hb dX7_init_16 rfl ?_
  refine lv_iconst (v := 2) hx hb dX7_init_17 (by decide) ?_
  refine lv_iconst (v := (-1)) hx hb dX7_init_18 (by decide) ?_
  refine va_iast hx hb hK hP hD hS 1 0 rfl rfl (i := 2) (x := (-1)) (show ¬ ((2 : Int32) < 0 ∨ 4 ≤ (2 : Int32).toNatClampNeg) by decide) dX7_init_19 (fun H locs hP hD hS => ?_)
  have hP : va_P D classes [(h0, .inr (7, [.null, .null, .null])), (q1, .inl (C 0, 4, .inl (upd (upd (upd (fun _ => 0) 0 (-1)) 1 (-1)) 2 (-1))))] H := hP
  have hD : va_D A [(h0, .inr (7, [.null, .null, .null])), (q1, .inl (C 0, 4, .inl (upd (upd (upd (fun _ => 0) 0 (-1)) 1 (-1)) 2 (-1))))] := hD
  refine lv_dup hx hb dX7_init_20 rfl ?_
  refine lv_iconst (v := 3) hx hb dX7_init_21 (by decide) ?_
  refine lv_iconst (v := (-1)) hx hb dX7_init_22 (by decide) ?_
  refine va_iast hx hb hK hP hD hS 1 0 rfl rfl (i := 3) (x := (-1)) (show ¬ ((3 : Int32) < 0 ∨ 4 ≤ (3 : Int32).toNatClampNeg) by decide) dX7_init_23 (fun H locs hP hD hS => ?_)
  have hP : va_P D classes [(h0, .inr (7, [.null, .null, .null])), (q1, .inl (C 0, 4, .inl (upd (upd (upd (upd (fun _ => 0) 0 (-1)) 1 (-1)) 2 (-1)) 3 (-1))))] H := hP
  have hD : va_D A [(h0, .inr (7, [.null, .null, .null])), (q1, .inl (C 0, 4, .inl (upd (upd (upd (upd (fun _ => 0) 0 (-1)) 1 (-1)) 2 (-1)) 3 (-1))))] := hD
  refine va_putF (ci := 7) (v := .ref q1) (ty := .array (.int)) (C := RX7) (T := TX7) (N := 3) hx hb hts clX7.ws tyX7 tyX7_ok nmX7 hown hK hP hD hS 0 rfl rfl 0 (by decide) (hts _ lf_X7_9) (fun _ h9 => h9) rfl hin rfl (by decide +kernel) rfl rfl (Nat.le_of_ble_eq_true rfl) dX7_init_24 (fun H locs hP hD hS => ?_)
  have hP : va_P D classes [(h0, .inr (7, [.ref q1, .null, .null])), (q1, .inl (C 0, 4, .inl (upd (upd (upd (upd (fun _ => 0) 0 (-1)) 1 (-1)) 2 (-1)) 3 (-1))))] H := hP
  have hD : va_D A [(h0, .inr (7, [.ref q1, .null, .null])), (q1, .inl (C 0, 4, .inl (upd (upd (upd (upd (fun _ => 0) 0 (-1)) 1 (-1)) 2 (-1)) 3 (-1))))] := hD
  refine lv_aload_n hx hb dX7_init_27 rfl (lv_at hl 0 rfl) ?_
  refine lv_iconst (v := 4) hx hb dX7_init_28 (by decide) ?_
  refine e_newI (n := 4) (N' := 4) hx hb hts wa_int hK hP hD hS hA (by decide) (by decide) (by decide) (Nat.le_of_ble_eq_true rfl) (Nat.le_of_ble_eq_true rfl) dX7_init_29 (fun q2 H hP hD hS => ?_)
  have hP : va_P D classes [(h0, .inr (7, [.ref q1, .null, .null])), (q1, .inl (C 0, 4, .inl (upd (upd (upd (upd (fun _ => 0) 0 (-1)) 1 (-1)) 2 (-1)) 3 (-1)))), (q2, .inl (C 0, 4, .inl (fun _ => 0)))] H := hP
  have hD : va_D A [(h0, .inr (7, [.ref q1, .null, .null])), (q1, .inl (C 0, 4, .inl (upd (upd (upd (upd (fun _ => 0) 0 (-1)) 1 (-1)) 2 (-1)) 3 (-1)))), (q2, .inl (C 0, 4, .inl (fun _ => 0)))] := hD
  refine va_putF (ci := 7) (v := .ref q2) (ty := .array (.int)) (C := RX7) (T := TX7) (N := 3) hx hb hts clX7.ws tyX7 tyX7_ok nmX7 hown hK hP hD hS 0 rfl rfl 1 (by decide) (hts _ lf_X7_13) (fun _ h9 => h9) rfl hin rfl (by decide +kernel) rfl rfl (Nat.le_of_ble_eq_true rfl) dX7_init_31 (fun H locs hP hD hS => ?_)
  have hP : va_P D classes [(h0, .inr (7, [.ref q1, .ref q2, .null])), (q1, .inl (C 0, 4, .inl (upd (upd (upd (upd (fun _ => 0) 0 (-1)) 1 (-1)) 2 (-1)) 3 (-1)))), (q2, .inl (C 0, 4, .inl (fun _ => 0)))] H := hP
  have hD : va_D A [(h0, .inr (7, [.ref q1, .ref q2, .null])), (q1, .inl (C 0, 4, .inl (upd (upd (upd (upd (fun _ => 0) 0 (-1)) 1 (-1)) 2 (-1)) 3 (-1)))), (q2, .inl (C 0, 4, .inl (fun _ => 0)))] := hD
  refine lv_aload_n hx hb dX7_init_34 rfl (lv_at hl 0 rfl) ?_
  refine lv_iconst (v := 4) hx hb dX7_init_35 (by decide) ?_
  refine lv_bipush (v := 40) hx hb dX7_init_36 (by decide) ?_
  refine e_newM (n := 4) (k := 40) (N' := 4) (K' := 40) hx hb hown (hts _ lk_X7_16) hE.1 hts wa_int hK hP hD hS hA (by decide) (by decide) (by decide) (by decide) (by decide) (by decide) (by decide) (Nat.le_of_ble_eq_true rfl) (Nat.le_of_ble_eq_true rfl) dX7_init_38 (fun q3 r3 H hP hD hS => ?_)
  have hP : va_P D classes [(h0, .inr (7, [.ref q1, .ref q2, .null])), (q1, .inl (C 0, 4, .inl (upd (upd (upd (upd (fun _ => 0) 0 (-1)) 1 (-1)) 2 (-1)) 3 (-1)))), (q2, .inl (C 0, 4, .inl (fun _ => 0))), (q3, .inl (C 4, 4, .inr (.inr (.inr (.inr (fun i => if i < 4 then some (r3 i) else none)))))), ((r3 0), .inl (C 0, 40, .inl (fun _ => 0))), ((r3 1), .inl (C 0, 40, .inl (fun _ => 0))), ((r3 2), .inl (C 0, 40, .inl (fun _ => 0))), ((r3 3), .inl (C 0, 40, .inl (fun _ => 0)))] H := hP
  have hD : va_D A [(h0, .inr (7, [.ref q1, .ref q2, .null])), (q1, .inl (C 0, 4, .inl (upd (upd (upd (upd (fun _ => 0) 0 (-1)) 1 (-1)) 2 (-1)) 3 (-1)))), (q2, .inl (C 0, 4, .inl (fun _ => 0))), (q3, .inl (C 4, 4, .inr (.inr (.inr (.inr (fun i => if i < 4 then some (r3 i) else none)))))), ((r3 0), .inl (C 0, 40, .inl (fun _ => 0))), ((r3 1), .inl (C 0, 40, .inl (fun _ => 0))), ((r3 2), .inl (C 0, 40, .inl (fun _ => 0))), ((r3 3), .inl (C 0, 40, .inl (fun _ => 0)))] := hD
  refine va_putF (ci := 7) (v := .ref q3) (ty := .array (.array (.int))) (C := RX7) (T := TX7) (N := 3) hx hb hts clX7.ws tyX7 tyX7_ok nmX7 hown hK hP hD hS 0 rfl rfl 2 (by decide) (hts _ lf_X7_18) (fun _ h9 => h9) rfl hin rfl (by decide +kernel) rfl rfl (Nat.le_of_ble_eq_true rfl) dX7_init_42 (fun H locs hP hD hS => ?_)
  have hP : va_P D classes [(h0, .inr (7, [.ref q1, .ref q2, .ref q3])), (q1, .inl (C 0, 4, .inl (upd (upd (upd (upd (fun _ => 0) 0 (-1)) 1 (-1)) 2 (-1)) 3 (-1)))), (q2, .inl (C 0, 4, .inl (fun _ => 0))), (q3, .inl (C 4, 4, .inr (.inr (.inr (.inr (fun i => if i < 4 then some (r3 i) else none)))))), ((r3 0), .inl (C 0, 40, .inl (fun _ => 0))), ((r3 1), .inl (C 0, 40, .inl (fun _ => 0))), ((r3 2), .inl (C 0, 40, .inl (fun _ => 0))), ((r3 3), .inl (C 0, 40, .inl (fun _ => 0)))] H := hP
  have hD : va_D A [(h0, .inr (7, [.ref q1, .ref q2, .ref q3])), (q1, .inl (C 0, 4, .inl (upd (upd (upd (upd (fun _ => 0) 0 (-1)) 1 (-1)) 2 (-1)) 3 (-1)))), (q2, .inl (C 0, 4, .inl (fun _ => 0))), (q3, .inl (C 4, 4, .inr (.inr (.inr (.inr (fun i => if i < 4 then some (r3 i) else none)))))), ((r3 0), .inl (C 0, 40, .inl (fun _ => 0))), ((r3 1), .inl (C 0, 40, .inl (fun _ => 0))), ((r3 2), .inl (C 0, 40, .inl (fun _ => 0))), ((r3 3), .inl (C 0, 40, .inl (fun _ => 0)))] := hD
  exact W.vret hx hb hr (fun t ht hW => ⟨⟨(fun k => [(fun i => [q1, q2, q3].getD i 0), r3].getD k (fun _ => 0)), rfl, trivial, by rw [ht]; exact hP, va_K.moved hW.alike hK, hD⟩, hS.F ht⟩) hS.2.2 dX7_init_45
set_option maxHeartbeats 4000000 in
set_option maxRecDepth 100000 in
theorem i_X10_init {KV : (Nat → Nat) × (Nat → Nat)} {l : Launch} {D : va_G} {C : Nat → ClassId} (h0 : Nat) : MtC KV l yX10_init cX10_init 1 1 18 3461 12 D C [.ref h0] [(h0, .inr (10, [.null, .null, .null, .null, .int 0, .null, .int 0, .int 0]))] (cw_X10_init C h0) := by
  intro sz
  refine Met.ofW (cc := cX10_init) (maxL := 1) (ret := none) (by decide) rfl ?_
  intro p e s m args below meth c s₁ B hml hv
  obtain ⟨rfl, hsz, hP, hK, hD0, hE, hX⟩ := hv
  have hx := B.exec
  have hb := B.bytes
  have hr := B.returns
  have hts0 := atoms_spec (ws := .code yX10_init cX10_init 1 none :: gw) B.pre
  have hts : ∀ w ∈ gw, w.before _ s = true := fun w9 h9 => hts0 w9 (List.mem_cons_of_mem _ h9)
  have hown : s.vm.findClass RX10 = some m.cls := findClass_of_methodNamed B.named
  have hlocks := B.notSynchronized
  have hin : meth.name = "<init>" := (name_of_methodNamed B.named B.method).1
  subst hsz
  have hD := hD0.self (sz := s.heap.size)
  generalize hAe : va_A [(h0, .inr (10, [.null, .null, .null, .null, .int 0, .null, .int 0, .int 0]))] s.heap.size = A at hD hX ⊢
  have hA : ∀ q : Nat, s.heap.size ≤ q → A q := fun q h => by rw [← hAe]; exact Or.inr h
  have hS : va_S A s.heap s.heap [] := va_S.rf
  have hl := lv_entry ([.ref h0]) (n := 1) (Nat.le_of_ble_eq_true rfl)
  rw [lg_entry_eq]
  generalize (lg_sl ([.ref h0]) ++ List.replicate (1 - (lg_sl ([.ref h0])).length) Slot.unset).toArray = ls at hl ⊢
  have hl : lv_has ls 1 [(0, .ref h0)] := hl
  refine lv_aload_n hx hb dX10_init_0 rfl (lv_at hl 0 rfl) ?_
  refine W.objInit hx hb hown (hts _ lm_X10_3) (hts _ wo_1) (hts _ wo_2) rfl (by rw [hml]; exact hl.1) rfl dX10_init_1 (Nat.le_of_ble_eq_true rfl) (Nat.le_of_ble_eq_true rfl) ?_
  refine W.eq (g2 := F0 m 4 ls []) rfl ?_
  refine lv_aload_n hx hb dX10_init_4 rfl (lv_at hl 0 rfl) ?_
  refine lv_bipush (v := 30) hx hb dX10_init_5 (by decide) ?_
  refine e_newI (n := 30) (N' := 30) hx hb hts wa_int hK hP hD hS hA (by decide) (by decide) (by decide) (Nat.le_of_ble_eq_true rfl) (Nat.le_of_ble_eq_true rfl) dX10_init_7 (fun q1 H hP hD hS => ?_)
  have hP : va_P D classes [(h0, .inr (10, [.null, .null, .null, .null, .int 0, .null, .int 0, .int 0])), (q1, .inl (C 0, 30, .inl (fun _ => 0)))] H := hP
  have hD : va_D A [(h0, .inr (10, [.null, .null, .null, .null, .int 0, .null, .int 0, .int 0])), (q1, .inl (C 0, 30, .inl (fun _ => 0)))] := hD
  refine va_putF (ci := 10) (v := .ref q1) (ty := .array (.int)) (C := RX10) (T := TX10) (N := 8) hx hb hts clX10.ws tyX10 tyX10_ok nmX10 hown hK hP hD hS 0 rfl rfl 0 (by decide) (hts _ lf_X10_11) (fun _ h9 => h9) rfl hin rfl (by decide +kernel) rfl rfl (Nat.le_of_ble_eq_true rfl) dX10_init_9 (fun H locs hP hD hS => ?_)
  have hP : va_P D classes [(h0, .inr (10, [.ref q1, .null, .null, .null, .int 0, .null, .int 0, .int 0])), (q1, .inl (C 0, 30, .inl (fun _ => 0)))] H := hP
  have hD : va_D A [(h0, .inr (10, [.ref q1, .null, .null, .null, .int 0, .null, .int 0, .int 0])), (q1, .inl (C 0, 30, .inl (fun _ => 0)))] := hD
  refine lv_aload_n hx hb dX10_init_12 rfl (lv_at hl 0 rfl) ?_
  refine lv_bipush (v := 30) hx hb dX10_init_13 (by decide) ?_
  refine e_newI (n := 30) (N' := 30) hx hb hts wa_int hK hP hD hS hA (by decide) (by decide) (by decide) (Nat.le_of_ble_eq_true rfl) (Nat.le_of_ble_eq_true rfl) dX10_init_15 (fun q2 H hP hD hS => ?_)
  have hP : va_P D classes [(h0, .inr (10, [.ref q1, .null, .null, .null, .int 0, .null, .int 0, .int 0])), (q1, .inl (C 0, 30, .inl (fun _ => 0))), (q2, .inl (C 0, 30, .inl (fun _ => 0)))] H := hP
  have hD : va_D A [(h0, .inr (10, [.ref q1, .null, .null, .null, .int 0, .null, .int 0, .int 0])), (q1, .inl (C 0, 30, .inl (fun _ => 0))), (q2, .inl (C 0, 30, .inl (fun _ => 0)))] := hD
  refine va_putF (ci := 10) (v := .ref q2) (ty := .array (.int)) (C := RX10) (T := TX10) (N := 8) hx hb hts clX10.ws tyX10 tyX10_ok nmX10 hown hK hP hD hS 0 rfl rfl 1 (by decide) (hts _ lf_X10_15) (fun _ h9 => h9) rfl hin rfl (by decide +kernel) rfl rfl (Nat.le_of_ble_eq_true rfl) dX10_init_17 (fun H locs hP hD hS => ?_)
  have hP : va_P D classes [(h0, .inr (10, [.ref q1, .ref q2, .null, .null, .int 0, .null, .int 0, .int 0])), (q1, .inl (C 0, 30, .inl (fun _ => 0))), (q2, .inl (C 0, 30, .inl (fun _ => 0)))] H := hP
  have hD : va_D A [(h0, .inr (10, [.ref q1, .ref q2, .null, .null, .int 0, .null, .int 0, .int 0])), (q1, .inl (C 0, 30, .inl (fun _ => 0))), (q2, .inl (C 0, 30, .inl (fun _ => 0)))] := hD
  refine lv_aload_n hx hb dX10_init_20 rfl (lv_at hl 0 rfl) ?_
  refine lv_bipush (v := 30) hx hb dX10_init_21 (by decide) ?_
  refine e_newI (n := 30) (N' := 30) hx hb hts wa_int hK hP hD hS hA (by decide) (by decide) (by decide) (Nat.le_of_ble_eq_true rfl) (Nat.le_of_ble_eq_true rfl) dX10_init_23 (fun q3 H hP hD hS => ?_)
  have hP : va_P D classes [(h0, .inr (10, [.ref q1, .ref q2, .null, .null, .int 0, .null, .int 0, .int 0])), (q1, .inl (C 0, 30, .inl (fun _ => 0))), (q2, .inl (C 0, 30, .inl (fun _ => 0))), (q3, .inl (C 0, 30, .inl (fun _ => 0)))] H := hP
  have hD : va_D A [(h0, .inr (10, [.ref q1, .ref q2, .null, .null, .int 0, .null, .int 0, .int 0])), (q1, .inl (C 0, 30, .inl (fun _ => 0))), (q2, .inl (C 0, 30, .inl (fun _ => 0))), (q3, .inl (C 0, 30, .inl (fun _ => 0)))] := hD
  refine va_putF (ci := 10) (v := .ref q3) (ty := .array (.int)) (C := RX10) (T := TX10) (N := 8) hx hb hts clX10.ws tyX10 tyX10_ok nmX10 hown hK hP hD hS 0 rfl rfl 2 (by decide) (hts _ lf_X10_18) (fun _ h9 => h9) rfl hin rfl (by decide +kernel) rfl rfl (Nat.le_of_ble_eq_true rfl) dX10_init_25 (fun H locs hP hD hS => ?_)
  have hP : va_P D classes [(h0, .inr (10, [.ref q1, .ref q2, .ref q3, .null, .int 0, .null, .int 0, .int 0])), (q1, .inl (C 0, 30, .inl (fun _ => 0))), (q2, .inl (C 0, 30, .inl (fun _ => 0))), (q3, .inl (C 0, 30, .inl (fun _ => 0)))] H := hP
  have hD : va_D A [(h0, .inr (10, [.ref q1, .ref q2, .ref q3, .null, .int 0, .null, .int 0, .int 0])), (q1, .inl (C 0, 30, .inl (fun _ => 0))), (q2, .inl (C 0, 30, .inl (fun _ => 0))), (q3, .inl (C 0, 30, .inl (fun _ => 0)))] := hD
  refine lv_aload_n hx hb dX10_init_28 rfl (lv_at hl 0 rfl) ?_
  refine lv_bipush (v := 30) hx hb dX10_init_29 (by decide) ?_
  refine e_newI (n := 30) (N' := 30) hx hb hts wa_int hK hP hD hS hA (by decide) (by decide) (by decide) (Nat.le_of_ble_eq_true rfl) (Nat.le_of_ble_eq_true rfl) dX10_init_31 (fun q4 H hP hD hS => ?_)
  have hP : va_P D classes [(h0, .inr (10, [.ref q1, .ref q2, .ref q3, .null, .int 0, .null, .int 0, .int 0])), (q1, .inl (C 0, 30, .inl (fun _ => 0))), (q2, .inl (C 0, 30, .inl (fun _ => 0))), (q3, .inl (C 0, 30, .inl (fun _ => 0))), (q4, .inl (C 0, 30, .inl (fun _ => 0)))] H := hP
  have hD : va_D A [(h0, .inr (10, [.ref q1, .ref q2, .ref q3, .null, .int 0, .null, .int 0, .int 0])), (q1, .inl (C 0, 30, .inl (fun _ => 0))), (q2, .inl (C 0, 30, .inl (fun _ => 0))), (q3, .inl (C 0, 30, .inl (fun _ => 0))), (q4, .inl (C 0, 30, .inl (fun _ => 0)))] := hD
  refine va_putF (ci := 10) (v := .ref q4) (ty := .array (.int)) (C := RX10) (T := TX10) (N := 8) hx hb hts clX10.ws tyX10 tyX10_ok nmX10 hown hK hP hD hS 0 rfl rfl 3 (by decide) (hts _ lf_X10_21) (fun _ h9 => h9) rfl hin rfl (by decide +kernel) rfl rfl (Nat.le_of_ble_eq_true rfl) dX10_init_33 (fun H locs hP hD hS => ?_)
  have hP : va_P D classes [(h0, .inr (10, [.ref q1, .ref q2, .ref q3, .ref q4, .int 0, .null, .int 0, .int 0])), (q1, .inl (C 0, 30, .inl (fun _ => 0))), (q2, .inl (C 0, 30, .inl (fun _ => 0))), (q3, .inl (C 0, 30, .inl (fun _ => 0))), (q4, .inl (C 0, 30, .inl (fun _ => 0)))] H := hP
  have hD : va_D A [(h0, .inr (10, [.ref q1, .ref q2, .ref q3, .ref q4, .int 0, .null, .int 0, .int 0])), (q1, .inl (C 0, 30, .inl (fun _ => 0))), (q2, .inl (C 0, 30, .inl (fun _ => 0))), (q3, .inl (C 0, 30, .inl (fun _ => 0))), (q4, .inl (C 0, 30, .inl (fun _ => 0)))] := hD
  refine lv_aload_n hx hb dX10_init_36 rfl (lv_at hl 0 rfl) ?_
  refine lv_bipush (v := 13) hx hb dX10_init_37 (by decide) ?_
  refine lv_sipush (v := 256) hx hb dX10_init_39 (by decide) ?_
  refine e_newM (n := 13) (k := 256) (N' := 13) (K' := 256) hx hb hown (hts _ lk_X10_24) hE.1 hts wa_int hK hP hD hS hA (by decide) (by decide) (by decide) (by decide) (by decide) (by decide) (by decide) (Nat.le_of_ble_eq_true rfl) (Nat.le_of_ble_eq_true rfl) dX10_init_42 (fun q5 r5 H hP hD hS => ?_)
  have hP : va_P D classes [(h0, .inr (10, [.ref q1, .ref q2, .ref q3, .ref q4, .int 0, .null, .int 0, .int 0])), (q1, .inl (C 0, 30, .inl (fun _ => 0))), (q2, .inl (C 0, 30, .inl (fun _ => 0))), (q3, .inl (C 0, 30, .inl (fun _ => 0))), (q4, .inl (C 0, 30, .inl (fun _ => 0))), (q5, .inl (C 4, 13, .inr (.inr (.inr (.inr (fun i => if i < 13 then some (r5 i) else none)))))), ((r5 0), .inl (C 0, 256, .inl (fun _ => 0))), ((r5 1), .inl (C 0, 256, .inl (fun _ => 0))), ((r5 2), .inl (C 0, 256, .inl (fun _ => 0))), ((r5 3), .inl (C 0, 256, .inl (fun _ => 0))), ((r5 4), .inl (C 0, 256, .inl (fun _ => 0))), ((r5 5), .inl (C 0, 256, .inl (fun _ => 0))), ((r5 6), .inl (C 0, 256, .inl (fun _ => 0))), ((r5 7), .inl (C 0, 256, .inl (fun _ => 0))), ((r5 8), .inl (C 0, 256, .inl (fun _ => 0))), ((r5 9), .inl (C 0, 256, .inl (fun _ => 0))), ((r5 10), .inl (C 0, 256, .inl (fun _ => 0))), ((r5 11), .inl (C 0, 256, .inl (fun _ => 0))), ((r5 12), .inl (C 0, 256, .inl (fun _ => 0)))] H := hP
  have hD : va_D A [(h0, .inr (10, [.ref q1, .ref q2, .ref q3, .ref q4, .int 0, .null, .int 0, .int 0])), (q1, .inl (C 0, 30, .inl (fun _ => 0))), (q2, .inl (C 0, 30, .inl (fun _ => 0))), (q3, .inl (C 0, 30, .inl (fun _ => 0))), (q4, .inl (C 0, 30, .inl (fun _ => 0))), (q5, .inl (C 4, 13, .inr (.inr (.inr (.inr (fun i => if i < 13 then some (r5 i) else none)))))), ((r5 0), .inl (C 0, 256, .inl (fun _ => 0))), ((r5 1), .inl (C 0, 256, .inl (fun _ => 0))), ((r5 2), .inl (C 0, 256, .inl (fun _ => 0))), ((r5 3), .inl (C 0, 256, .inl (fun _ => 0))), ((r5 4), .inl (C 0, 256, .inl (fun _ => 0))), ((r5 5), .inl (C 0, 256, .inl (fun _ => 0))), ((r5 6), .inl (C 0, 256, .inl (fun _ => 0))), ((r5 7), .inl (C 0, 256, .inl (fun _ => 0))), ((r5 8), .inl (C 0, 256, .inl (fun _ => 0))), ((r5 9), .inl (C 0, 256, .inl (fun _ => 0))), ((r5 10), .inl (C 0, 256, .inl (fun _ => 0))), ((r5 11), .inl (C 0, 256, .inl (fun _ => 0))), ((r5 12), .inl (C 0, 256, .inl (fun _ => 0)))] := hD
  refine va_putF (ci := 10) (v := .ref q5) (ty := .array (.array (.int))) (C := RX10) (T := TX10) (N := 8) hx hb hts clX10.ws tyX10 tyX10_ok nmX10 hown hK hP hD hS 0 rfl rfl 5 (by decide) (hts _ lf_X10_26) (fun _ h9 => h9) rfl hin rfl (by decide +kernel) rfl rfl (Nat.le_of_ble_eq_true rfl) dX10_init_46 (fun H locs hP hD hS => ?_)
  have hP : va_P D classes [(h0, .inr (10, [.ref q1, .ref q2, .ref q3, .ref q4, .int 0, .ref q5, .int 0, .int 0])), (q1, .inl (C 0, 30, .inl (fun _ => 0))), (q2, .inl (C 0, 30, .inl (fun _ => 0))), (q3, .inl (C 0, 30, .inl (fun _ => 0))), (q4, .inl (C 0, 30, .inl (fun _ => 0))), (q5, .inl (C 4, 13, .inr (.inr (.inr (.inr (fun i => if i < 13 then some (r5 i) else none)))))), ((r5 0), .inl (C 0, 256, .inl (fun _ => 0))), ((r5 1), .inl (C 0, 256, .inl (fun _ => 0))), ((r5 2), .inl (C 0, 256, .inl (fun _ => 0))), ((r5 3), .inl (C 0, 256, .inl (fun _ => 0))), ((r5 4), .inl (C 0, 256, .inl (fun _ => 0))), ((r5 5), .inl (C 0, 256, .inl (fun _ => 0))), ((r5 6), .inl (C 0, 256, .inl (fun _ => 0))), ((r5 7), .inl (C 0, 256, .inl (fun _ => 0))), ((r5 8), .inl (C 0, 256, .inl (fun _ => 0))), ((r5 9), .inl (C 0, 256, .inl (fun _ => 0))), ((r5 10), .inl (C 0, 256, .inl (fun _ => 0))), ((r5 11), .inl (C 0, 256, .inl (fun _ => 0))), ((r5 12), .inl (C 0, 256, .inl (fun _ => 0)))] H := hP
  have hD : va_D A [(h0, .inr (10, [.ref q1, .ref q2, .ref q3, .ref q4, .int 0, .ref q5, .int 0, .int 0])), (q1, .inl (C 0, 30, .inl (fun _ => 0))), (q2, .inl (C 0, 30, .inl (fun _ => 0))), (q3, .inl (C 0, 30, .inl (fun _ => 0))), (q4, .inl (C 0, 30, .inl (fun _ => 0))), (q5, .inl (C 4, 13, .inr (.inr (.inr (.inr (fun i => if i < 13 then some (r5 i) else none)))))), ((r5 0), .inl (C 0, 256, .inl (fun _ => 0))), ((r5 1), .inl (C 0, 256, .inl (fun _ => 0))), ((r5 2), .inl (C 0, 256, .inl (fun _ => 0))), ((r5 3), .inl (C 0, 256, .inl (fun _ => 0))), ((r5 4), .inl (C 0, 256, .inl (fun _ => 0))), ((r5 5), .inl (C 0, 256, .inl (fun _ => 0))), ((r5 6), .inl (C 0, 256, .inl (fun _ => 0))), ((r5 7), .inl (C 0, 256, .inl (fun _ => 0))), ((r5 8), .inl (C 0, 256, .inl (fun _ => 0))), ((r5 9), .inl (C 0, 256, .inl (fun _ => 0))), ((r5 10), .inl (C 0, 256, .inl (fun _ => 0))), ((r5 11), .inl (C 0, 256, .inl (fun _ => 0))), ((r5 12), .inl (C 0, 256, .inl (fun _ => 0)))] := hD
  exact W.vret hx hb hr (fun t ht hW => ⟨⟨(fun k => [(fun i => [q1, q2, q3, q4, q5].getD i 0), r5].getD k (fun _ => 0)), rfl, trivial, by rw [ht]; exact hP, va_K.moved hW.alike hK, hD⟩, hS.F ht⟩) hS.2.2 dX10_init_49
set_option maxHeartbeats 4000000 in
set_option maxRecDepth 100000 in
theorem i_X6_init {KV : (Nat → Nat) × (Nat → Nat)} {l : Launch} {D : va_G} {C : Nat → ClassId} (h0 : Nat) (a1 : Nat) (a2 : Int32) : MtC KV l yX6_init cX6_init 3 1 0 0 12 D C [.ref h0, .ref a1, .int a2] [(h0, .inr (6, [.null, .int 0]))] (cw_X6_init C h0 a1 a2) := by
  intro sz
  refine Met.ofW (cc := cX6_init) (maxL := 3) (ret := none) (by decide) rfl ?_
  intro p e s m args below meth c s₁ B hml hv
  obtain ⟨rfl, hsz, hP, hK, hD0, hE, hX⟩ := hv
  have hx := B.exec
  have hb := B.bytes
  have hr := B.returns
  have hts0 := atoms_spec (ws := .code yX6_init cX6_init 3 none :: gw) B.pre
  have hts : ∀ w ∈ gw, w.before _ s = true := fun w9 h9 => hts0 w9 (List.mem_cons_of_mem _ h9)
  have hown : s.vm.findClass RX6 = some m.cls := findClass_of_methodNamed B.named
  have hlocks := B.notSynchronized
  have hin : meth.name = "<init>" := (name_of_methodNamed B.named B.method).1
  subst hsz
  have hD := hD0.self (sz := s.heap.size)
  generalize hAe : va_A [(h0, .inr (6, [.null, .int 0]))] s.heap.size = A at hD hX ⊢
  have hA : ∀ q : Nat, s.heap.size ≤ q → A q := fun q h => by rw [← hAe]; exact Or.inr h
  have hS : va_S A s.heap s.heap [] := va_S.rf
  have hl := lv_entry ([.ref h0, .ref a1, .int a2]) (n := 3) (Nat.le_of_ble_eq_true rfl)
  rw [lg_entry_eq]
  generalize (lg_sl ([.ref h0, .ref a1, .int a2]) ++ List.replicate (3 - (lg_sl ([.ref h0, .ref a1, .int a2])).length) Slot.unset).toArray = ls at hl ⊢
  have hl : lv_has ls 3 [(0, .ref h0), (1, .ref a1), (2, .int a2)] := hl
  refine lv_aload_n hx hb dX6_init_0 rfl (lv_at hl 0 rfl) ?_
  refine W.objInit hx hb hown (hts _ lm_X6_3) (hts _ wo_1) (hts _ wo_2) rfl (by rw [hml]; exact hl.1) rfl dX6_init_1 (Nat.le_of_ble_eq_true rfl) (Nat.le_of_ble_eq_true rfl) ?_
  refine W.eq (g2 := F0 m 4 ls []) rfl ?_
  refine lv_aload_n hx hb dX6_init_4 rfl (lv_at hl 0 rfl) ?_
  refine lv_aload_n hx hb dX6_init_5 rfl (lv_at hl 1 rfl) ?_
  refine va_putF (ci := 6) (v := .ref a1) (ty := .array (.int)) (C := RX6) (T := TX6) (N := 2) hx hb hts clX6.ws tyX6 tyX6_ok nmX6 hown hK hP hD hS 0 rfl rfl 0 (by decide) (hts _ lf_X6_9) (fun _ h9 => h9) rfl hin rfl (by decide +kernel) rfl rfl (Nat.le_of_ble_eq_true rfl) dX6_init_6 (fun H locs hP hD hS => ?_)
  have hP : va_P D classes [(h0, .inr (6, [.ref a1, .int 0]))] H := hP
  have hD : va_D A [(h0, .inr (6, [.ref a1, .int 0]))] := hD
  refine lv_aload_n hx hb dX6_init_9 rfl (lv_at hl 0 rfl) ?_
  refine lv_iload_n hx hb dX6_init_10 rfl (lv_at hl 2 rfl) ?_
  refine va_putF (ci := 6) (v := .int a2) (ty := .int) (C := RX6) (T := TX6) (N := 2) hx hb hts clX6.ws tyX6 tyX6_ok nmX6 hown hK hP hD hS 0 rfl rfl 1 (by decide) (hts _ lf_X6_13) (fun _ h9 => h9) rfl hin rfl (by decide +kernel) rfl rfl (Nat.le_of_ble_eq_true rfl) dX6_init_11 (fun H locs hP hD hS => ?_)
  have hP : va_P D classes [(h0, .inr (6, [.ref a1, .int a2]))] H := hP
  have hD : va_D A [(h0, .inr (6, [.ref a1, .int a2]))] := hD
  exact W.vret hx hb hr (fun t ht hW => ⟨⟨(fun k => [(fun i => [].getD i 0)].getD k (fun _ => 0)), rfl, trivial, by rw [ht]; exact hP, va_K.moved hW.alike hK, hD⟩, hS.F ht⟩) hS.2.2 dX6_init_14
set_option maxHeartbeats 4000000 in
set_option maxRecDepth 100000 in
theorem w_X0_tail_l36 {X : Mc} {w : Wd} (hC : Cok X w (Aw w (xs_ X).heap.size) yX0_init.cls cX0_init 2 1 12 shB rB 4) (hret : (xmeth X).sig.returnType = none) (σ : St)     : ∀ (n : Nat) (x1 : Int32) (σ2 : St), RF X w (Aw w (xs_ X).heap.size) 2 (QV X w) (f_X0_tail_l36 n x1 σ2) 36 [(0, .ref (wA w 0)), (1, .int x1)] [] σ2 := by
  intro n
  induction n with
  | zero => intro x1 σ2; rw [f_X0_tail_l36]; exact r_none
  | succ n ih =>
    intro x1 σ2
    rw [f_X0_tail_l36]
    refine r_iload_n hC dX0_init_36 rfl 1 rfl ?_
    refine r_bipush (v := 8) hC dX0_init_37 (by decide) ?_
    refine r_icmp_ge hC 71 dX0_init_39 (by decide) (fun c3 => ?_) (fun c3 => ?_)
    · exact r_vret hC hret dX0_init_71
    · refine r_aload_n hC dX0_init_42 rfl 0 rfl ?_
      refine r_getR hC clX0 0 0 1 rfl rfl rfl (hC.n rfl) rfl lf_X0_9 dX0_init_43 ?_
      refine r_iload_n hC dX0_init_46 rfl 1 rfl ?_
      refine r_iconst (v := (-1)) hC dX0_init_47 (by decide) ?_
      refine r_gd (fun g4 => ?_)
      refine r_iast hC 1 8 rfl rfl g4 dX0_init_48 ?_
      refine r_nmS (fun σ5 => ?_)
      refine r_aload_n hC dX0_init_49 rfl 0 rfl ?_
      refine r_getR hC clX0 0 1 2 rfl rfl rfl (hC.n rfl) rfl lf_X0_15 dX0_init_50 ?_
      refine r_iload_n hC dX0_init_53 rfl 1 rfl ?_
      refine r_iload_n hC dX0_init_54 rfl 1 rfl ?_
      refine r_iconst (v := 2) hC dX0_init_55 (by decide) ?_
      refine r_irem hC dX0_init_56 (by decide) ?_
      refine r_gd (fun g6 => ?_)
      refine r_iast hC 2 8 rfl rfl g6 dX0_init_57 ?_
      refine r_nmS (fun σ7 => ?_)
      refine r_aload_n hC dX0_init_58 rfl 0 rfl ?_
      refine r_getR hC clX0 0 2 3 rfl rfl rfl (hC.n rfl) rfl lf_X0_18 dX0_init_59 ?_
      refine r_iload_n hC dX0_init_62 rfl 1 rfl ?_
      refine r_iconst (v := 4) hC dX0_init_63 (by decide) ?_
      refine r_gd (fun g8 => ?_)
      refine r_iast hC 3 8 rfl rfl g8 dX0_init_64 ?_
      refine r_nmS (fun σ9 => ?_)
      refine r_iinc (v := x1 + 1) (lv' := [(1, .int (x1 + 1)), (0, .ref (wA w 0))]) hC dX0_init_65 1 rfl rfl (by decide) rfl ?_
      refine r_goto hC 36 dX0_init_68 (by decide) ?_
      exact r_lv [1, 0] rfl (ih (x1 + 1) σ9)
set_option maxHeartbeats 4000000 in
set_option maxRecDepth 100000 in
theorem w_X0_tail {X : Mc} {w : Wd} (hC : Cok X w (Aw w (xs_ X).heap.size) yX0_init.cls cX0_init 2 1 12 shB rB 4) (hret : (xmeth X).sig.returnType = none) (σ : St) : RF X w (Aw w (xs_ X).heap.size) 2 (QV X w) (f_X0_tail σ) 34 [(0, .ref (wA w 0))] [] σ := by
  unfold f_X0_tail
  refine r_iconst (v := 0) hC dX0_init_34 (by decide) ?_
  refine r_istore_n (lv' := [(1, .int 0), (0, .ref (wA w 0))]) hC dX0_init_35 rfl (by decide) rfl ?_
  refine r_lv [1, 0] rfl ?_
  exact w_X0_tail_l36 hC hret σ FU 0 σ
set_option maxHeartbeats 4000000 in
set_option maxRecDepth 100000 in
theorem w_X12_tail_l295 {X : Mc} {w : Wd} (hC : Cok X w (Aw w (xs_ X).heap.size) yX12_init.cls cX12_init 2 1 24 shM rM 29) (hret : (xmeth X).sig.returnType = none) (σ9 : St)     : ∀ (n : Nat) (x10 : Int32) (σ11 : St), RF X w (Aw w (xs_ X).heap.size) 2 (QV X w) (f_X12_tail_l295 n x10 σ11) 295 [(0, .ref (wA w 0)), (1, .int x10)] [] σ11 := by
  intro n
  induction n with
  | zero => intro x10 σ11; rw [f_X12_tail_l295]; exact r_none
  | succ n ih =>
    intro x10 σ11
    rw [f_X12_tail_l295]
    refine r_iload_n hC dX12_init_295 rfl 1 rfl ?_
    refine r_bipush (v := 8) hC dX12_init_296 (by decide) ?_
    refine r_icmp_ge hC 330 dX12_init_298 (by decide) (fun c12 => ?_) (fun c12 => ?_)
    · exact r_vret hC hret dX12_init_330
    · refine r_aload_n hC dX12_init_301 rfl 0 rfl ?_
      refine r_getR hC clX12 0 12 8 rfl rfl rfl (hC.n rfl) rfl lf_X12_35 dX12_init_302 ?_
      refine r_iload_n hC dX12_init_305 rfl 1 rfl ?_
      refine r_iconst (v := (-1)) hC dX12_init_306 (by decide) ?_
      refine r_gd (fun g13 => ?_)
      refine r_iast hC 8 8 rfl rfl g13 dX12_init_307 ?_
      refine r_nmS (fun σ14 => ?_)
      refine r_aload_n hC dX12_init_308 rfl 0 rfl ?_
      refine r_getR hC clX12 0 13 9 rfl rfl rfl (hC.n rfl) rfl lf_X12_38 dX12_init_309 ?_
      refine r_iload_n hC dX12_init_312 rfl 1 rfl ?_
      refine r_iload_n hC dX12_init_313 rfl 1 rfl ?_
      refine r_iconst (v := 2) hC dX12_init_314 (by decide) ?_
      refine r_irem hC dX12_init_315 (by decide) ?_
      refine r_gd (fun g15 => ?_)
      refine r_iast hC 9 8 rfl rfl g15 dX12_init_316 ?_
      refine r_nmS (fun σ16 => ?_)
      refine r_aload_n hC dX12_init_317 rfl 0 rfl ?_
      refine r_getR hC clX12 0 14 10 rfl rfl rfl (hC.n rfl) rfl lf_X12_41 dX12_init_318 ?_
      refine r_iload_n hC dX12_init_321 rfl 1 rfl ?_
      refine r_iconst (v := 4) hC dX12_init_322 (by decide) ?_
      refine r_gd (fun g17 => ?_)
      refine r_iast hC 10 8 rfl rfl g17 dX12_init_323 ?_
      refine r_nmS (fun σ18 => ?_)
      refine r_iinc (v := x10 + 1) (lv' := [(1, .int (x10 + 1)), (0, .ref (wA w 0))]) hC dX12_init_324 1 rfl rfl (by decide) rfl ?_
      refine r_goto hC 295 dX12_init_327 (by decide) ?_
      exact r_lv [1, 0] rfl (ih (x10 + 1) σ18)
set_option maxHeartbeats 4000000 in
set_option maxRecDepth 100000 in
theorem w_X12_tail {X : Mc} {w : Wd} (hC : Cok X w (Aw w (xs_ X).heap.size) yX12_init.cls cX12_init 2 1 24 shM rM 29) (hret : (xmeth X).sig.returnType = none) (σ : St) : RF X w (Aw w (xs_ X).heap.size) 2 (QV X w) (f_X12_tail σ) 230 [(0, .ref (wA w 0))] [] σ := by
  unfold f_X12_tail
  refine r_aload_n hC dX12_init_230 rfl 0 rfl ?_
  refine r_iconst (v := 0) hC dX12_init_231 (by decide) ?_
  refine r_ldc2 (v := 7451617235168554866) hC lc_X12_100 dX12_init_232 ?_
  refine r_callVV hC (b := 0) (ci := 12) (st := []) [.int 0, .long 7451617235168554866] rfl (hC.n rfl) rfl rfl (c_X12_spell hC.w σ 0 7451617235168554866) yk_X12_spell lm_X12_102 rfl ⟨rfl, rfl⟩ rfl dX12_init_235 (fun σ1 => ?_)
  refine r_aload_n hC dX12_init_238 rfl 0 rfl ?_
  refine r_bipush (v := 8) hC dX12_init_239 (by decide) ?_
  refine r_ldc2 (v := 7162166152001971553) hC lc_X12_106 dX12_init_241 ?_
  refine r_callVV hC (b := 0) (ci := 12) (st := []) [.int 8, .long 7162166152001971553] rfl (hC.n rfl) rfl rfl (c_X12_spell hC.w σ1 8 7162166152001971553) yk_X12_spell lm_X12_102 rfl ⟨rfl, rfl⟩ rfl dX12_init_244 (fun σ2 => ?_)
  refine r_aload_n hC dX12_init_247 rfl 0 rfl ?_
  refine r_bipush (v := 16) hC dX12_init_248 (by decide) ?_
  refine r_ldc2 (v := 8223637929888735591) hC lc_X12_108 dX12_init_250 ?_
  refine r_callVV hC (b := 0) (ci := 12) (st := []) [.int 16, .long 8223637929888735591] rfl (hC.n rfl) rfl rfl (c_X12_spell hC.w σ2 16 8223637929888735591) yk_X12_spell lm_X12_102 rfl ⟨rfl, rfl⟩ rfl dX12_init_253 (fun σ3 => ?_)
  refine r_aload_n hC dX12_init_256 rfl 0 rfl ?_
  refine r_bipush (v := 24) hC dX12_init_257 (by decide) ?_
  refine r_ldc2 (v := 2338336212330487850) hC lc_X12_110 dX12_init_259 ?_
  refine r_callVV hC (b := 0) (ci := 12) (st := []) [.int 24, .long 2338336212330487850] rfl (hC.n rfl) rfl rfl (c_X12_spell hC.w σ3 24 2338336212330487850) yk_X12_spell lm_X12_102 rfl ⟨rfl, rfl⟩ rfl dX12_init_262 (fun σ4 => ?_)
  refine r_aload_n hC dX12_init_265 rfl 0 rfl ?_
  refine r_bipush (v := 32) hC dX12_init_266 (by decide) ?_
  refine r_ldc2 (v := 2319952196363362336) hC lc_X12_112 dX12_init_268 ?_
  refine r_callVV hC (b := 0) (ci := 12) (st := []) [.int 32, .long 2319952196363362336] rfl (hC.n rfl) rfl rfl (c_X12_spell hC.w σ4 32 2319952196363362336) yk_X12_spell lm_X12_102 rfl ⟨rfl, rfl⟩ rfl dX12_init_271 (fun σ5 => ?_)
  refine r_aload_n hC dX12_init_274 rfl 0 rfl ?_
  refine r_getR hC clX12 0 2 2 rfl rfl rfl (hC.n rfl) rfl lf_X12_17 dX12_init_275 ?_
  refine r_iconst (v := 0) hC dX12_init_278 (by decide) ?_
  refine r_bipush (v := 40) hC dX12_init_279 (by decide) ?_
  refine r_gd (fun g6 => ?_)
  refine r_iast hC 2 6 rfl rfl g6 dX12_init_281 ?_
  refine r_nmS (fun σ7 => ?_)
  refine r_aload_n hC dX12_init_282 rfl 0 rfl ?_
  refine r_iconst (v := 1) hC dX12_init_283 (by decide) ?_
  refine r_putI hC clX12 0 3 rfl rfl rfl (hC.n rfl) rfl rfl lf_X12_114 dX12_init_284 ?_
  refine r_nmS (fun σ8 => ?_)
  refine r_aload_n hC dX12_init_287 rfl 0 rfl ?_
  refine r_bipush (v := 20) hC dX12_init_288 (by decide) ?_
  refine r_putI hC clX12 0 15 rfl rfl rfl (hC.n rfl) rfl rfl lf_X12_117 dX12_init_290 ?_
  refine r_nmS (fun σ9 => ?_)
  refine r_iconst (v := 0) hC dX12_init_293 (by decide) ?_
  refine r_istore_n (lv' := [(1, .int 0), (0, .ref (wA w 0))]) hC dX12_init_294 rfl (by decide) rfl ?_
  refine r_lv [1, 0] rfl ?_
  exact w_X12_tail_l295 hC hret σ9 FU 0 σ9
