theorem lm_X11_99 : Cond.methodLink RX11 99 yX11_within ∈ gw := gw_t2 116 rfl rfl
theorem yk_X11_within : YS yX11_within cX11_within 3 (some .boolean) 3 := ⟨gw_t2 118 rfl rfl, gw_t2 117 rfl rfl, gw_t1 1 rfl rfl, by decide +kernel⟩
theorem lf_X11_10 : Cond.fieldLink RX11 10 (TX11 0).1 (TX11 0).2.1 (TX11 0).2.2.1 ∈ gw := gw_t2 63 rfl rfl
theorem lm_X11_103 : Cond.methodLink RX11 103 yX2_add ∈ gw := gw_t2 119 rfl rfl
theorem yk_X2_add : YV yX2_add cX2_add 5 (some .int) 4 := ⟨gw_t2 122 rfl rfl, gw_t2 120 rfl rfl, gw_t2 121 rfl rfl, gw_t1 2 rfl rfl, by decide +kernel⟩
theorem lm_X11_107 : Cond.methodLink RX11 107 yX2_has ∈ gw := gw_t2 127 rfl rfl
theorem lf_X11_111 : Cond.fieldLink RX11 111 (TX2 0).1 (TX2 0).2.1 (TX2 0).2.2.1 ∈ gw := gw_t1 38 rfl rfl
theorem lf_X11_114 : Cond.fieldLink RX11 114 (TX2 1).1 (TX2 1).2.1 (TX2 1).2.2.1 ∈ gw := gw_t1 41 rfl rfl
theorem lf_X11_117 : Cond.fieldLink RX11 117 (TX2 2).1 (TX2 2).2.1 (TX2 2).2.2.1 ∈ gw := gw_t1 45 rfl rfl
theorem lf_X11_120 : Cond.fieldLink RX11 120 (TX2 3).1 (TX2 3).2.1 (TX2 3).2.2.1 ∈ gw := gw_t1 47 rfl rfl
theorem lf_X11_19 : Cond.fieldLink RX11 19 (TX11 1).1 (TX11 1).2.1 (TX11 1).2.2.1 ∈ gw := gw_t2 64 rfl rfl
theorem lm_X11_123 : Cond.methodLink RX11 123 yX0_seatOf ∈ gw := gw_t2 131 rfl rfl
theorem lm_X11_127 : Cond.methodLink RX11 127 yX11_isSeat ∈ gw := gw_t2 139 rfl rfl
theorem yk_X11_isSeat : YS yX11_isSeat cX11_isSeat 1 (some .boolean) 1 := ⟨gw_t2 141 rfl rfl, gw_t2 140 rfl rfl, gw_t1 1 rfl rfl, by decide +kernel⟩
theorem lm_X11_130 : Cond.methodLink RX11 130 yX0_place ∈ gw := gw_t2 142 rfl rfl
theorem yk_X0_place : YV yX0_place cX0_place 5 (some .int) 2 := ⟨gw_t2 145 rfl rfl, gw_t2 143 rfl rfl, gw_t2 144 rfl rfl, gw_t1 3 rfl rfl, by decide +kernel⟩
theorem lf_X11_137 : Cond.fieldLink RX11 137 (TX0 2).1 (TX0 2).2.1 (TX0 2).2.2.1 ∈ gw := gw_t1 76 rfl rfl
theorem lf_X11_134 : Cond.fieldLink RX11 134 (TX0 1).1 (TX0 1).2.1 (TX0 1).2.2.1 ∈ gw := gw_t1 73 rfl rfl
theorem lf_X11_143 : Cond.fieldLink RX11 143 (TX0 4).1 (TX0 4).2.1 (TX0 4).2.2.1 ∈ gw := gw_t1 82 rfl rfl
theorem lf_X11_140 : Cond.fieldLink RX11 140 (TX0 3).1 (TX0 3).2.1 (TX0 3).2.2.1 ∈ gw := gw_t1 79 rfl rfl
theorem lm_X11_146 : Cond.methodLink RX11 146 yX3_has ∈ gw := gw_t2 159 rfl rfl
theorem yk_X3_has : YS yX3_has cX3_has 1 (some .boolean) 1 := ⟨gw_t2 161 rfl rfl, gw_t2 160 rfl rfl, gw_t1 13 rfl rfl, by decide +kernel⟩
theorem lm_X11_149 : Cond.methodLink RX11 149 yX3_pull ∈ gw := gw_t2 162 rfl rfl
theorem lm_X11_153 : Cond.methodLink RX11 153 yX3_cost ∈ gw := gw_t2 171 rfl rfl
theorem lm_X11_156 : Cond.methodLink RX11 156 yX3_slips ∈ gw := gw_t2 174 rfl rfl
theorem lf_X11_37 : Cond.fieldLink RX11 37 (TX11 6).1 (TX11 6).2.1 (TX11 6).2.2.1 ∈ gw := gw_t2 69 rfl rfl
theorem lm_X11_159 : Cond.methodLink RX11 159 yX8_add ∈ gw := gw_t2 181 rfl rfl
theorem yk_X8_add : YV yX8_add cX8_add 5 (some .int) 2 := ⟨gw_t2 184 rfl rfl, gw_t2 182 rfl rfl, gw_t2 183 rfl rfl, gw_t1 4 rfl rfl, by decide +kernel⟩
theorem lf_X11_59 : Cond.fieldLink RX11 59 (TX11 9).1 (TX11 9).2.1 (TX11 9).2.2.1 ∈ gw := gw_t2 72 rfl rfl
theorem lf_X11_173 : Cond.fieldLink RX11 173 (TX11 10).1 (TX11 10).2.1 (TX11 10).2.2.1 ∈ gw := gw_t2 73 rfl rfl
theorem lf_X11_65 : Cond.fieldLink RX11 65 (TX11 11).1 (TX11 11).2.1 (TX11 11).2.2.1 ∈ gw := gw_t2 74 rfl rfl
theorem lm_X11_176 : Cond.methodLink RX11 176 yX4_isFull ∈ gw := gw_t3 148 rfl rfl
theorem lm_X11_180 : Cond.methodLink RX11 180 yX4_read ∈ gw := gw_t3 152 rfl rfl
theorem yk_X4_read : YV yX4_read cX4_read 7 (some .int) 0 := ⟨gw_t3 155 rfl rfl, gw_t3 153 rfl rfl, gw_t3 154 rfl rfl, gw_t1 7 rfl rfl, by decide +kernel⟩
theorem lf_X11_166 : Cond.fieldLink RX11 166 (TX8 1).1 (TX8 1).2.1 (TX8 1).2.2.1 ∈ gw := gw_t1 105 rfl rfl
theorem lf_X11_183 : Cond.fieldLink RX11 183 (TX4 3).1 (TX4 3).2.1 (TX4 3).2.2.1 ∈ gw := gw_t1 168 rfl rfl
theorem lm_X11_184 : Cond.methodLink RX11 184 yX4_has ∈ gw := gw_t3 174 rfl rfl
theorem lm_X11_188 : Cond.methodLink RX11 188 yX4_kindOf ∈ gw := gw_t3 178 rfl rfl
theorem yk_X4_kindOf : YV yX4_kindOf cX4_kindOf 3 (some .int) 2 := ⟨gw_t3 181 rfl rfl, gw_t3 179 rfl rfl, gw_t3 180 rfl rfl, gw_t1 7 rfl rfl, by decide +kernel⟩
theorem lf_X11_185 : Cond.fieldLink RX11 185 (TX4 2).1 (TX4 2).2.1 (TX4 2).2.2.1 ∈ gw := gw_t1 166 rfl rfl
theorem lc_X11_191 : Cond.constantLong RX11 191 (-4611686018427387904) ∈ gw := gw_t3 187 rfl rfl
theorem lm_X11_193 : Cond.methodLink RX11 193 yX11_rowBy ∈ gw := gw_t3 188 rfl rfl
theorem lf_X11_74 : Cond.fieldLink RX11 74 (TX11 12).1 (TX11 12).2.1 (TX11 12).2.2.1 ∈ gw := gw_t2 75 rfl rfl
theorem lf_X11_52 : Cond.fieldLink RX11 52 (TX11 8).1 (TX11 8).2.1 (TX11 8).2.2.1 ∈ gw := gw_t2 71 rfl rfl
theorem lm_X11_227 : Cond.methodLink RX11 227 yX1_begin ∈ gw := gw_t3 192 rfl rfl
theorem yk_X1_begin : YV yX1_begin cX1_begin 2 none 1 := ⟨gw_t3 195 rfl rfl, gw_t3 193 rfl rfl, gw_t3 194 rfl rfl, gw_t1 8 rfl rfl, by decide +kernel⟩
theorem lf_X11_337 : Cond.fieldLink RX11 337 (TX4 1).1 (TX4 1).2.1 (TX4 1).2.2.1 ∈ gw := gw_t1 164 rfl rfl
theorem lm_X11_340 : Cond.methodLink RX11 340 yX1_pullAll ∈ gw := gw_t3 202 rfl rfl
theorem yk_X1_pullAll : YV yX1_pullAll cX1_pullAll 4 none 2 := ⟨gw_t3 205 rfl rfl, gw_t3 203 rfl rfl, gw_t3 204 rfl rfl, gw_t1 8 rfl rfl, by decide +kernel⟩
theorem yk_X11_rowBy : YV yX11_rowBy cX11_rowBy 2 none 1 := ⟨gw_t3 191 rfl rfl, gw_t3 190 rfl rfl, gw_s 13 rfl, gw_t1 1 rfl rfl, by decide +kernel⟩
theorem lf_X11_197 : Cond.fieldLink RX11 197 (TX1 11).1 (TX1 11).2.1 (TX1 11).2.2.1 ∈ gw := gw_t1 198 rfl rfl
theorem lf_X11_201 : Cond.fieldLink RX11 201 (TX1 10).1 (TX1 10).2.1 (TX1 10).2.2.1 ∈ gw := gw_t1 196 rfl rfl
theorem lf_X11_204 : Cond.fieldLink RX11 204 (TX1 12).1 (TX1 12).2.1 (TX1 12).2.2.1 ∈ gw := gw_t1 200 rfl rfl
theorem lf_X11_207 : Cond.fieldLink RX11 207 (TX1 13).1 (TX1 13).2.1 (TX1 13).2.2.1 ∈ gw := gw_t1 202 rfl rfl
theorem lf_X11_210 : Cond.fieldLink RX11 210 (TX1 14).1 (TX1 14).2.1 (TX1 14).2.2.1 ∈ gw := gw_t1 204 rfl rfl
theorem lf_X11_213 : Cond.fieldLink RX11 213 (TX1 9).1 (TX1 9).2.1 (TX1 9).2.2.1 ∈ gw := gw_t1 194 rfl rfl
theorem lm_X11_214 : Cond.methodLink RX11 214 arraycopyName ∈ gw := gw_t4 5 rfl rfl
theorem lm_X11_220 : Cond.methodLink RX11 220 yX11_wayIfChanged ∈ gw := gw_t4 10 rfl rfl
theorem lm_X11_343 : Cond.methodLink RX11 343 yX1_changeSeats ∈ gw := gw_t4 14 rfl rfl
theorem yk_X1_changeSeats : YV yX1_changeSeats cX1_changeSeats 4 none 2 := ⟨gw_t4 17 rfl rfl, gw_t4 15 rfl rfl, gw_t4 16 rfl rfl, gw_t1 8 rfl rfl, by decide +kernel⟩
theorem yk_X11_wayIfChanged : YV yX11_wayIfChanged cX11_wayIfChanged 4 (some .long) 3 := ⟨gw_t4 13 rfl rfl, gw_t4 12 rfl rfl, gw_s 17 rfl, gw_t1 1 rfl rfl, by decide +kernel⟩
theorem lf_X11_224 : Cond.fieldLink RX11 224 (TX0 0).1 (TX0 0).2.1 (TX0 0).2.2.1 ∈ gw := gw_t1 71 rfl rfl
theorem lm_X11_231 : Cond.methodLink RX11 231 yX1_pullOnce ∈ gw := gw_t4 26 rfl rfl
theorem lm_X11_240 : Cond.methodLink RX11 240 yJ6_bitCount_0f7a4 ∈ gw := gw_t4 30 rfl rfl
theorem lm_X11_245 : Cond.methodLink RX11 245 yX1_wagsBy ∈ gw := gw_t4 36 rfl rfl
theorem yk_X1_wagsBy : YV yX1_wagsBy cX1_wagsBy 6 (some .long) 1 := ⟨gw_t4 39 rfl rfl, gw_t4 37 rfl rfl, gw_t4 38 rfl rfl, gw_t1 8 rfl rfl, by decide +kernel⟩
theorem lm_X11_234 : Cond.methodLink RX11 234 Lib.MathLoose.abs_long.x ∈ gw := gw_t4 27 rfl rfl
theorem lm_X11_249 : Cond.methodLink RX11 249 yX1_pullMany ∈ gw := gw_t4 45 rfl rfl
theorem yk_X1_pullMany : YV yX1_pullMany cX1_pullMany 4 none 2 := ⟨gw_t4 48 rfl rfl, gw_t4 46 rfl rfl, gw_t4 47 rfl rfl, gw_t1 8 rfl rfl, by decide +kernel⟩
theorem lf_X11_81 : Cond.fieldLink RX11 81 (TX11 13).1 (TX11 13).2.1 (TX11 13).2.2.1 ∈ gw := gw_t2 76 rfl rfl
theorem lm_X11_253 : Cond.methodLink RX11 253 yX10_add ∈ gw := gw_t4 53 rfl rfl
theorem yk_X10_add : YV yX10_add cX10_add 5 (some .int) 4 := ⟨gw_t4 56 rfl rfl, gw_t4 54 rfl rfl, gw_t4 55 rfl rfl, gw_t1 9 rfl rfl, by decide +kernel⟩
theorem lm_X11_257 : Cond.methodLink RX11 257 yX10_keepAll ∈ gw := gw_t4 65 rfl rfl
theorem yk_X10_keepAll : YV yX10_keepAll cX10_keepAll 3 (some .boolean) 1 := ⟨gw_t4 68 rfl rfl, gw_t4 66 rfl rfl, gw_t4 67 rfl rfl, gw_t1 9 rfl rfl, by decide +kernel⟩
theorem lm_X11_262 : Cond.methodLink RX11 262 yX10_mostOf ∈ gw := gw_t4 93 rfl rfl
theorem yk_X10_mostOf : YV yX10_mostOf cX10_mostOf 3 (some .int) 2 := ⟨gw_t4 96 rfl rfl, gw_t4 94 rfl rfl, gw_t4 95 rfl rfl, gw_t1 9 rfl rfl, by decide +kernel⟩
theorem lc_X11_260 : Cond.constantLong RX11 260 (-3) ∈ gw := gw_t4 92 rfl rfl
theorem lm_X11_254 : Cond.methodLink RX11 254 yX10_hasAll ∈ gw := gw_t4 61 rfl rfl
theorem yk_X10_hasAll : YV yX10_hasAll cX10_hasAll 2 (some .boolean) 1 := ⟨gw_t4 64 rfl rfl, gw_t4 62 rfl rfl, gw_t4 63 rfl rfl, gw_t1 9 rfl rfl, by decide +kernel⟩
theorem lm_X11_265 : Cond.methodLink RX11 265 yX10_fewestGone ∈ gw := gw_t4 101 rfl rfl
theorem yk_X10_fewestGone : YV yX10_fewestGone cX10_fewestGone 2 (some .int) 1 := ⟨gw_t4 104 rfl rfl, gw_t4 102 rfl rfl, gw_t4 103 rfl rfl, gw_t1 9 rfl rfl, by decide +kernel⟩
theorem lf_X11_95 : Cond.fieldLink RX11 95 (TX11 15).1 (TX11 15).2.1 (TX11 15).2.2.1 ∈ gw := gw_t2 78 rfl rfl
theorem lm_X11_268 : Cond.methodLink RX11 268 yX7_has ∈ gw := gw_t4 119 rfl rfl
theorem yk_X7_has : YV yX7_has cX7_has 2 (some .boolean) 1 := ⟨gw_t4 122 rfl rfl, gw_t4 120 rfl rfl, gw_t4 121 rfl rfl, gw_t1 11 rfl rfl, by decide +kernel⟩
theorem lm_X11_269 : Cond.methodLink RX11 269 yX7_isMissing ∈ gw := gw_t4 123 rfl rfl
theorem yk_X7_isMissing : YV yX7_isMissing cX7_isMissing 2 (some .boolean) 1 := ⟨gw_t4 126 rfl rfl, gw_t4 124 rfl rfl, gw_t4 125 rfl rfl, gw_t1 11 rfl rfl, by decide +kernel⟩
theorem lf_X11_272 : Cond.fieldLink RX11 272 (TX7 1).1 (TX7 1).2.1 (TX7 1).2.2.1 ∈ gw := gw_t2 53 rfl rfl
theorem lf_X11_88 : Cond.fieldLink RX11 88 (TX11 14).1 (TX11 14).2.1 (TX11 14).2.2.1 ∈ gw := gw_t2 77 rfl rfl
theorem lf_X11_273 : Cond.fieldLink RX11 273 (TX7 2).1 (TX7 2).2.1 (TX7 2).2.2.1 ∈ gw := gw_t2 55 rfl rfl
theorem lm_X11_277 : Cond.methodLink RX11 277 yX5_add ∈ gw := gw_t4 127 rfl rfl
theorem yk_X5_add : YV yX5_add cX5_add 3 (some .int) 1 := ⟨gw_t4 130 rfl rfl, gw_t4 128 rfl rfl, gw_t4 129 rfl rfl, gw_t1 10 rfl rfl, by decide +kernel⟩
theorem lm_X11_280 : Cond.methodLink RX11 280 yX5_isLane ∈ gw := gw_t4 136 rfl rfl
theorem yk_X5_isLane : YS yX5_isLane cX5_isLane 1 (some .boolean) 1 := ⟨gw_t4 138 rfl rfl, gw_t4 137 rfl rfl, gw_t1 10 rfl rfl, by decide +kernel⟩
theorem lm_X11_283 : Cond.methodLink RX11 283 yX5_differences ∈ gw := gw_t4 139 rfl rfl
theorem yk_X5_differences : YV yX5_differences cX5_differences 5 (some .int) 2 := ⟨gw_t4 142 rfl rfl, gw_t4 140 rfl rfl, gw_t4 141 rfl rfl, gw_t1 10 rfl rfl, by decide +kernel⟩
theorem lm_X11_286 : Cond.methodLink RX11 286 yX5_meetings ∈ gw := gw_t4 151 rfl rfl
theorem yk_X5_meetings : YV yX5_meetings cX5_meetings 5 (some .int) 2 := ⟨gw_t4 154 rfl rfl, gw_t4 152 rfl rfl, gw_t4 153 rfl rfl, gw_t1 10 rfl rfl, by decide +kernel⟩
theorem lm_X11_289 : Cond.methodLink RX11 289 Lib.Math.abs.name ∈ gw := gw_t4 155 rfl rfl
theorem ws_mabs : Cond.static Lib.Math.abs.name ∈ gw := gw_t4 156 rfl rfl
theorem wc_mabs : Cond.code Lib.Math.abs.name Lib.Math.abs.code 1 (some .int) ∈ gw := gw_t4 157 rfl rfl
theorem lm_X11_291 : Cond.methodLink RX11 291 yX11_commonDivisor ∈ gw := gw_t4 158 rfl rfl
theorem yk_X11_commonDivisor : YS yX11_commonDivisor cX11_commonDivisor 6 (some .int) 2 := ⟨gw_t4 160 rfl rfl, gw_t4 159 rfl rfl, gw_t1 1 rfl rfl, by decide +kernel⟩
theorem lm_X11_294 : Cond.methodLink RX11 294 yX5_isFair ∈ gw := gw_t4 165 rfl rfl
theorem yk_X5_isFair : YV yX5_isFair cX5_isFair 5 (some .boolean) 1 := ⟨gw_t4 168 rfl rfl, gw_t4 166 rfl rfl, gw_t4 167 rfl rfl, gw_t1 10 rfl rfl, by decide +kernel⟩
theorem lf_X11_23 : Cond.fieldLink RX11 23 (TX11 2).1 (TX11 2).2.1 (TX11 2).2.2.1 ∈ gw := gw_t2 65 rfl rfl
theorem lm_X11_297 : Cond.methodLink RX11 297 yX0_become ∈ gw := gw_t4 177 rfl rfl
theorem yk_X0_become : YV yX0_become cX0_become 2 none 1 := ⟨gw_t4 180 rfl rfl, gw_t4 178 rfl rfl, gw_t4 179 rfl rfl, gw_t1 3 rfl rfl, by decide +kernel⟩
theorem lf_X11_26 : Cond.fieldLink RX11 26 (TX11 3).1 (TX11 3).2.1 (TX11 3).2.2.1 ∈ gw := gw_t2 66 rfl rfl
theorem lf_X11_301 : Cond.fieldLink RX11 301 (TX2 4).1 (TX2 4).2.1 (TX2 4).2.2.1 ∈ gw := gw_t1 50 rfl rfl
theorem lf_X11_30 : Cond.fieldLink RX11 30 (TX11 4).1 (TX11 4).2.1 (TX11 4).2.2.1 ∈ gw := gw_t2 67 rfl rfl
theorem lf_X11_302 : Cond.fieldLink RX11 302 (TX11 5).1 (TX11 5).2.1 (TX11 5).2.2.1 ∈ gw := gw_t2 68 rfl rfl
theorem lm_X11_305 : Cond.methodLink RX11 305 yX0_sitters ∈ gw := gw_t4 182 rfl rfl
theorem yk_X0_sitters : YV yX0_sitters cX0_sitters 3 (some .int) 0 := ⟨gw_t4 185 rfl rfl, gw_t4 183 rfl rfl, gw_t4 184 rfl rfl, gw_t1 3 rfl rfl, by decide +kernel⟩
theorem lf_X11_308 : Cond.fieldLink RX11 308 (TX10 4).1 (TX10 4).2.1 (TX10 4).2.2.1 ∈ gw := gw_t2 8 rfl rfl
theorem lf_X11_309 : Cond.fieldLink RX11 309 (TX5 1).1 (TX5 1).2.1 (TX5 1).2.2.1 ∈ gw := gw_t2 37 rfl rfl
theorem lm_X11_310 : Cond.methodLink RX11 310 yX0_weightOf ∈ gw := gw_t4 194 rfl rfl
theorem lm_X11_320 : Cond.methodLink RX11 320 yX7_renew ∈ gw := gw_t4 202 rfl rfl
theorem yk_X7_renew : YV yX7_renew cX7_renew 4 none 3 := ⟨gw_t4 205 rfl rfl, gw_t4 203 rfl rfl, gw_t4 204 rfl rfl, gw_t1 11 rfl rfl, by decide +kernel⟩
theorem lf_X11_317 : Cond.fieldLink RX11 317 (TX7 0).1 (TX7 0).2.1 (TX7 0).2.2.1 ∈ gw := gw_t2 51 rfl rfl
theorem lm_X11_314 : Cond.methodLink RX11 314 yX7_isSort ∈ gw := gw_t4 199 rfl rfl
theorem yk_X7_isSort : YS yX7_isSort cX7_isSort 1 (some .boolean) 1 := ⟨gw_t4 201 rfl rfl, gw_t4 200 rfl rfl, gw_t1 11 rfl rfl, by decide +kernel⟩
theorem lm_X11_324 : Cond.methodLink RX11 324 yX7_holds ∈ gw := gw_t4 211 rfl rfl
theorem yk_X7_holds : YV yX7_holds cX7_holds 4 (some .boolean) 3 := ⟨gw_t4 214 rfl rfl, gw_t4 212 rfl rfl, gw_t4 213 rfl rfl, gw_t1 11 rfl rfl, by decide +kernel⟩
theorem lm_X11_327 : Cond.methodLink RX11 327 yX7_put ∈ gw := gw_t4 215 rfl rfl
theorem yk_X7_put : YV yX7_put cX7_put 4 none 3 := ⟨gw_t4 218 rfl rfl, gw_t4 216 rfl rfl, gw_t4 217 rfl rfl, gw_t1 11 rfl rfl, by decide +kernel⟩
theorem lm_X11_330 : Cond.methodLink RX11 330 yX11_piece ∈ gw := gw_t4 227 rfl rfl
theorem yk_X11_piece : YV yX11_piece cX11_piece 6 (some .int) 4 := ⟨gw_t4 52 rfl rfl, gw_t4 50 rfl rfl, gw_t4 51 rfl rfl, gw_t1 1 rfl rfl, by decide +kernel⟩
theorem lm_X11_333 : Cond.methodLink RX11 333 yX3_isUnder ∈ gw := gw_t4 232 rfl rfl
theorem yk_X3_isUnder : YS yX3_isUnder cX3_isUnder 2 (some .boolean) 2 := ⟨gw_t4 234 rfl rfl, gw_t4 233 rfl rfl, gw_t1 13 rfl rfl, by decide +kernel⟩
theorem dX11_within_0 : decode cX11_within 0 = .ok (.iload_n 0, 1) := by decide +kernel
theorem dX11_within_1 : decode cX11_within 1 = .ok (.iload_n 1, 1) := by decide +kernel
theorem dX11_within_2 : decode cX11_within 2 = .ok (.if_icmp .lt 12, 3) := by decide +kernel
theorem dX11_within_5 : decode cX11_within 5 = .ok (.iload_n 0, 1) := by decide +kernel
theorem dX11_within_6 : decode cX11_within 6 = .ok (.iload_n 2, 1) := by decide +kernel
theorem dX11_within_7 : decode cX11_within 7 = .ok (.if_icmp .gt 7, 3) := by decide +kernel
theorem dX11_within_10 : decode cX11_within 10 = .ok (.iconst 1, 1) := by decide +kernel
theorem dX11_within_11 : decode cX11_within 11 = .ok (.goto 4, 3) := by decide +kernel
theorem dX11_within_14 : decode cX11_within 14 = .ok (.iconst 0, 1) := by decide +kernel
theorem dX11_within_15 : decode cX11_within 15 = .ok (.ireturn, 1) := by decide +kernel
theorem dX11_rower_0 : decode cX11_rower 0 = .ok (.iload_n 1, 1) := by decide +kernel
theorem dX11_rower_1 : decode cX11_rower 1 = .ok (.bipush 40, 2) := by decide +kernel
theorem dX11_rower_3 : decode cX11_rower 3 = .ok (.bipush 120, 2) := by decide +kernel
theorem dX11_rower_5 : decode cX11_rower 5 = .ok (.invokestatic 99, 3) := by decide +kernel
theorem dX11_rower_8 : decode cX11_rower 8 = .ok (.ifCond .eq 39, 3) := by decide +kernel
theorem dX11_rower_11 : decode cX11_rower 11 = .ok (.iload_n 2, 1) := by decide +kernel
theorem dX11_rower_12 : decode cX11_rower 12 = .ok (.iconst 1, 1) := by decide +kernel
theorem dX11_rower_13 : decode cX11_rower 13 = .ok (.bipush 99, 2) := by decide +kernel
theorem dX11_rower_15 : decode cX11_rower 15 = .ok (.invokestatic 99, 3) := by decide +kernel
theorem dX11_rower_18 : decode cX11_rower 18 = .ok (.ifCond .eq 29, 3) := by decide +kernel
theorem dX11_rower_21 : decode cX11_rower 21 = .ok (.iload_n 3, 1) := by decide +kernel
theorem dX11_rower_22 : decode cX11_rower 22 = .ok (.iconst 0, 1) := by decide +kernel
theorem dX11_rower_23 : decode cX11_rower 23 = .ok (.sipush 9999, 3) := by decide +kernel
theorem dX11_rower_26 : decode cX11_rower 26 = .ok (.invokestatic 99, 3) := by decide +kernel
theorem dX11_rower_29 : decode cX11_rower 29 = .ok (.ifCond .eq 18, 3) := by decide +kernel
theorem dX11_rower_32 : decode cX11_rower 32 = .ok (.iload 4, 2) := by decide +kernel
theorem dX11_rower_34 : decode cX11_rower 34 = .ok (.iconst 0, 1) := by decide +kernel
theorem dX11_rower_35 : decode cX11_rower 35 = .ok (.bipush 99, 2) := by decide +kernel
theorem dX11_rower_37 : decode cX11_rower 37 = .ok (.invokestatic 99, 3) := by decide +kernel
theorem dX11_rower_40 : decode cX11_rower 40 = .ok (.ifCond .eq 7, 3) := by decide +kernel
theorem dX11_rower_43 : decode cX11_rower 43 = .ok (.iconst 1, 1) := by decide +kernel
theorem dX11_rower_44 : decode cX11_rower 44 = .ok (.goto 4, 3) := by decide +kernel
theorem dX11_rower_47 : decode cX11_rower 47 = .ok (.iconst 0, 1) := by decide +kernel
theorem dX11_rower_48 : decode cX11_rower 48 = .ok (.istore 5, 2) := by decide +kernel
theorem dX11_rower_50 : decode cX11_rower 50 = .ok (.iload 5, 2) := by decide +kernel
theorem dX11_rower_52 : decode cX11_rower 52 = .ok (.ifCond .ne 6, 3) := by decide +kernel
theorem dX11_rower_55 : decode cX11_rower 55 = .ok (.bipush (-2), 2) := by decide +kernel
theorem dX11_rower_57 : decode cX11_rower 57 = .ok (.ireturn, 1) := by decide +kernel
theorem dX11_rower_58 : decode cX11_rower 58 = .ok (.aload_n 0, 1) := by decide +kernel
theorem dX11_rower_59 : decode cX11_rower 59 = .ok (.getfield 10, 3) := by decide +kernel
theorem dX11_rower_62 : decode cX11_rower 62 = .ok (.iload_n 1, 1) := by decide +kernel
theorem dX11_rower_63 : decode cX11_rower 63 = .ok (.iload_n 2, 1) := by decide +kernel
theorem dX11_rower_64 : decode cX11_rower 64 = .ok (.iload_n 3, 1) := by decide +kernel
theorem dX11_rower_65 : decode cX11_rower 65 = .ok (.iload 4, 2) := by decide +kernel
theorem dX11_rower_67 : decode cX11_rower 67 = .ok (.invokevirtual 103, 3) := by decide +kernel
theorem dX11_rower_70 : decode cX11_rower 70 = .ok (.ireturn, 1) := by decide +kernel
theorem dX11_rowerTold_0 : decode cX11_rowerTold 0 = .ok (.aload_n 0, 1) := by decide +kernel
theorem dX11_rowerTold_1 : decode cX11_rowerTold 1 = .ok (.getfield 10, 3) := by decide +kernel
theorem dX11_rowerTold_4 : decode cX11_rowerTold 4 = .ok (.iload_n 1, 1) := by decide +kernel
theorem dX11_rowerTold_5 : decode cX11_rowerTold 5 = .ok (.invokevirtual 107, 3) := by decide +kernel
theorem dX11_rowerTold_8 : decode cX11_rowerTold 8 = .ok (.ifCond .ne 6, 3) := by decide +kernel
theorem dX11_rowerTold_11 : decode cX11_rowerTold 11 = .ok (.bipush (-5), 2) := by decide +kernel
theorem dX11_rowerTold_13 : decode cX11_rowerTold 13 = .ok (.ireturn, 1) := by decide +kernel
theorem dX11_rowerTold_14 : decode cX11_rowerTold 14 = .ok (.iload_n 2, 1) := by decide +kernel
theorem dX11_rowerTold_15 : decode cX11_rowerTold 15 = .ok (.tableswitch 82 0 4 #[33, 43, 53, 63, 73], 33) := by decide +kernel
theorem dX11_rowerTold_48 : decode cX11_rowerTold 48 = .ok (.aload_n 0, 1) := by decide +kernel
theorem dX11_rowerTold_49 : decode cX11_rowerTold 49 = .ok (.getfield 10, 3) := by decide +kernel
theorem dX11_rowerTold_52 : decode cX11_rowerTold 52 = .ok (.getfield 111, 3) := by decide +kernel
theorem dX11_rowerTold_55 : decode cX11_rowerTold 55 = .ok (.iload_n 1, 1) := by decide +kernel
theorem dX11_rowerTold_56 : decode cX11_rowerTold 56 = .ok (.iaload, 1) := by decide +kernel
theorem dX11_rowerTold_57 : decode cX11_rowerTold 57 = .ok (.ireturn, 1) := by decide +kernel
theorem dX11_rowerTold_58 : decode cX11_rowerTold 58 = .ok (.aload_n 0, 1) := by decide +kernel
theorem dX11_rowerTold_59 : decode cX11_rowerTold 59 = .ok (.getfield 10, 3) := by decide +kernel
theorem dX11_rowerTold_62 : decode cX11_rowerTold 62 = .ok (.getfield 114, 3) := by decide +kernel
theorem dX11_rowerTold_65 : decode cX11_rowerTold 65 = .ok (.iload_n 1, 1) := by decide +kernel
theorem dX11_rowerTold_66 : decode cX11_rowerTold 66 = .ok (.iaload, 1) := by decide +kernel
theorem dX11_rowerTold_67 : decode cX11_rowerTold 67 = .ok (.ireturn, 1) := by decide +kernel
theorem dX11_rowerTold_68 : decode cX11_rowerTold 68 = .ok (.aload_n 0, 1) := by decide +kernel
theorem dX11_rowerTold_69 : decode cX11_rowerTold 69 = .ok (.getfield 10, 3) := by decide +kernel
theorem dX11_rowerTold_72 : decode cX11_rowerTold 72 = .ok (.getfield 117, 3) := by decide +kernel
theorem dX11_rowerTold_75 : decode cX11_rowerTold 75 = .ok (.iload_n 1, 1) := by decide +kernel
theorem dX11_rowerTold_76 : decode cX11_rowerTold 76 = .ok (.iaload, 1) := by decide +kernel
theorem dX11_rowerTold_77 : decode cX11_rowerTold 77 = .ok (.ireturn, 1) := by decide +kernel
theorem dX11_rowerTold_78 : decode cX11_rowerTold 78 = .ok (.aload_n 0, 1) := by decide +kernel
theorem dX11_rowerTold_79 : decode cX11_rowerTold 79 = .ok (.getfield 10, 3) := by decide +kernel
theorem dX11_rowerTold_82 : decode cX11_rowerTold 82 = .ok (.getfield 120, 3) := by decide +kernel
theorem dX11_rowerTold_85 : decode cX11_rowerTold 85 = .ok (.iload_n 1, 1) := by decide +kernel
theorem dX11_rowerTold_86 : decode cX11_rowerTold 86 = .ok (.iaload, 1) := by decide +kernel
theorem dX11_rowerTold_87 : decode cX11_rowerTold 87 = .ok (.ireturn, 1) := by decide +kernel
theorem dX11_rowerTold_88 : decode cX11_rowerTold 88 = .ok (.aload_n 0, 1) := by decide +kernel
theorem dX11_rowerTold_89 : decode cX11_rowerTold 89 = .ok (.getfield 19, 3) := by decide +kernel
theorem dX11_rowerTold_92 : decode cX11_rowerTold 92 = .ok (.iload_n 1, 1) := by decide +kernel
theorem dX11_rowerTold_93 : decode cX11_rowerTold 93 = .ok (.invokevirtual 123, 3) := by decide +kernel
theorem dX11_rowerTold_96 : decode cX11_rowerTold 96 = .ok (.ireturn, 1) := by decide +kernel
theorem dX11_rowerTold_97 : decode cX11_rowerTold 97 = .ok (.bipush (-5), 2) := by decide +kernel
theorem dX11_rowerTold_99 : decode cX11_rowerTold 99 = .ok (.ireturn, 1) := by decide +kernel
theorem dX11_isSeat_0 : decode cX11_isSeat 0 = .ok (.iload_n 0, 1) := by decide +kernel
theorem dX11_isSeat_1 : decode cX11_isSeat 1 = .ok (.iconst 0, 1) := by decide +kernel
theorem dX11_isSeat_2 : decode cX11_isSeat 2 = .ok (.bipush 7, 2) := by decide +kernel
theorem dX11_isSeat_4 : decode cX11_isSeat 4 = .ok (.invokestatic 99, 3) := by decide +kernel
theorem dX11_isSeat_7 : decode cX11_isSeat 7 = .ok (.ireturn, 1) := by decide +kernel
theorem dX11_sit_0 : decode cX11_sit 0 = .ok (.iload_n 1, 1) := by decide +kernel
theorem dX11_sit_1 : decode cX11_sit 1 = .ok (.invokestatic 127, 3) := by decide +kernel
theorem dX11_sit_4 : decode cX11_sit 4 = .ok (.ifCond .eq 19, 3) := by decide +kernel
theorem dX11_sit_7 : decode cX11_sit 7 = .ok (.iload_n 2, 1) := by decide +kernel
theorem dX11_sit_8 : decode cX11_sit 8 = .ok (.iconst (-1), 1) := by decide +kernel
theorem dX11_sit_9 : decode cX11_sit 9 = .ok (.if_icmp .eq 17, 3) := by decide +kernel
theorem dX11_sit_12 : decode cX11_sit 12 = .ok (.aload_n 0, 1) := by decide +kernel
theorem dX11_sit_13 : decode cX11_sit 13 = .ok (.getfield 10, 3) := by decide +kernel
theorem dX11_sit_16 : decode cX11_sit 16 = .ok (.iload_n 2, 1) := by decide +kernel
theorem dX11_sit_17 : decode cX11_sit 17 = .ok (.invokevirtual 107, 3) := by decide +kernel
theorem dX11_sit_20 : decode cX11_sit 20 = .ok (.ifCond .ne 6, 3) := by decide +kernel
theorem dX11_sit_23 : decode cX11_sit 23 = .ok (.bipush (-5), 2) := by decide +kernel
theorem dX11_sit_25 : decode cX11_sit 25 = .ok (.ireturn, 1) := by decide +kernel
theorem dX11_sit_26 : decode cX11_sit 26 = .ok (.aload_n 0, 1) := by decide +kernel
theorem dX11_sit_27 : decode cX11_sit 27 = .ok (.getfield 19, 3) := by decide +kernel
theorem dX11_sit_30 : decode cX11_sit 30 = .ok (.iload_n 1, 1) := by decide +kernel
theorem dX11_sit_31 : decode cX11_sit 31 = .ok (.iload_n 2, 1) := by decide +kernel
theorem dX11_sit_32 : decode cX11_sit 32 = .ok (.invokevirtual 130, 3) := by decide +kernel
theorem dX11_sit_35 : decode cX11_sit 35 = .ok (.ireturn, 1) := by decide +kernel
theorem dX11_rig_0 : decode cX11_rig 0 = .ok (.iload_n 1, 1) := by decide +kernel
theorem dX11_rig_1 : decode cX11_rig 1 = .ok (.invokestatic 127, 3) := by decide +kernel
theorem dX11_rig_4 : decode cX11_rig 4 = .ok (.ifCond .ne 6, 3) := by decide +kernel
theorem dX11_rig_7 : decode cX11_rig 7 = .ok (.bipush (-2), 2) := by decide +kernel
theorem dX11_rig_9 : decode cX11_rig 9 = .ok (.ireturn, 1) := by decide +kernel
theorem dX11_rig_10 : decode cX11_rig 10 = .ok (.iload_n 2, 1) := by decide +kernel
theorem dX11_rig_11 : decode cX11_rig 11 = .ok (.ifCond .ne 36, 3) := by decide +kernel
theorem dX11_rig_14 : decode cX11_rig 14 = .ok (.iload_n 3, 1) := by decide +kernel
theorem dX11_rig_15 : decode cX11_rig 15 = .ok (.iconst 0, 1) := by decide +kernel
theorem dX11_rig_16 : decode cX11_rig 16 = .ok (.iconst 1, 1) := by decide +kernel
theorem dX11_rig_17 : decode cX11_rig 17 = .ok (.invokestatic 99, 3) := by decide +kernel
theorem dX11_rig_20 : decode cX11_rig 20 = .ok (.ifCond .eq 27, 3) := by decide +kernel
theorem dX11_rig_23 : decode cX11_rig 23 = .ok (.aload_n 0, 1) := by decide +kernel
theorem dX11_rig_24 : decode cX11_rig 24 = .ok (.getfield 19, 3) := by decide +kernel
theorem dX11_rig_27 : decode cX11_rig 27 = .ok (.getfield 134, 3) := by decide +kernel
theorem dX11_rig_30 : decode cX11_rig 30 = .ok (.iload_n 1, 1) := by decide +kernel
theorem dX11_rig_31 : decode cX11_rig 31 = .ok (.iaload, 1) := by decide +kernel
theorem dX11_rig_32 : decode cX11_rig 32 = .ok (.istore 4, 2) := by decide +kernel
theorem dX11_rig_34 : decode cX11_rig 34 = .ok (.aload_n 0, 1) := by decide +kernel
theorem dX11_rig_35 : decode cX11_rig 35 = .ok (.getfield 19, 3) := by decide +kernel
theorem dX11_rig_38 : decode cX11_rig 38 = .ok (.getfield 134, 3) := by decide +kernel
theorem dX11_rig_41 : decode cX11_rig 41 = .ok (.iload_n 1, 1) := by decide +kernel
theorem dX11_rig_42 : decode cX11_rig 42 = .ok (.iload_n 3, 1) := by decide +kernel
theorem dX11_rig_43 : decode cX11_rig 43 = .ok (.iastore, 1) := by decide +kernel
theorem dX11_rig_44 : decode cX11_rig 44 = .ok (.iload 4, 2) := by decide +kernel
theorem dX11_rig_46 : decode cX11_rig 46 = .ok (.ireturn, 1) := by decide +kernel
theorem dX11_rig_47 : decode cX11_rig 47 = .ok (.iload_n 2, 1) := by decide +kernel
theorem dX11_rig_48 : decode cX11_rig 48 = .ok (.iconst 1, 1) := by decide +kernel
theorem dX11_rig_49 : decode cX11_rig 49 = .ok (.if_icmp .ne 37, 3) := by decide +kernel
theorem dX11_rig_52 : decode cX11_rig 52 = .ok (.iload_n 3, 1) := by decide +kernel
theorem dX11_rig_53 : decode cX11_rig 53 = .ok (.iconst 1, 1) := by decide +kernel
theorem dX11_rig_54 : decode cX11_rig 54 = .ok (.bipush 9, 2) := by decide +kernel
theorem dX11_rig_56 : decode cX11_rig 56 = .ok (.invokestatic 99, 3) := by decide +kernel
theorem dX11_rig_59 : decode cX11_rig 59 = .ok (.ifCond .eq 27, 3) := by decide +kernel
theorem dX11_rig_62 : decode cX11_rig 62 = .ok (.aload_n 0, 1) := by decide +kernel
theorem dX11_rig_63 : decode cX11_rig 63 = .ok (.getfield 19, 3) := by decide +kernel
theorem dX11_rig_66 : decode cX11_rig 66 = .ok (.getfield 137, 3) := by decide +kernel
theorem dX11_rig_69 : decode cX11_rig 69 = .ok (.iload_n 1, 1) := by decide +kernel
theorem dX11_rig_70 : decode cX11_rig 70 = .ok (.iaload, 1) := by decide +kernel
theorem dX11_rig_71 : decode cX11_rig 71 = .ok (.istore 4, 2) := by decide +kernel
theorem dX11_rig_73 : decode cX11_rig 73 = .ok (.aload_n 0, 1) := by decide +kernel
theorem dX11_rig_74 : decode cX11_rig 74 = .ok (.getfield 19, 3) := by decide +kernel
theorem dX11_rig_77 : decode cX11_rig 77 = .ok (.getfield 137, 3) := by decide +kernel
theorem dX11_rig_80 : decode cX11_rig 80 = .ok (.iload_n 1, 1) := by decide +kernel
theorem dX11_rig_81 : decode cX11_rig 81 = .ok (.iload_n 3, 1) := by decide +kernel
theorem dX11_rig_82 : decode cX11_rig 82 = .ok (.iastore, 1) := by decide +kernel
theorem dX11_rig_83 : decode cX11_rig 83 = .ok (.iload 4, 2) := by decide +kernel
theorem dX11_rig_85 : decode cX11_rig 85 = .ok (.ireturn, 1) := by decide +kernel
theorem dX11_rig_86 : decode cX11_rig 86 = .ok (.bipush (-2), 2) := by decide +kernel
theorem dX11_rig_88 : decode cX11_rig 88 = .ok (.ireturn, 1) := by decide +kernel
theorem dX11_water_0 : decode cX11_water 0 = .ok (.iload_n 1, 1) := by decide +kernel
theorem dX11_water_1 : decode cX11_water 1 = .ok (.ifCond .ne 32, 3) := by decide +kernel
theorem dX11_water_4 : decode cX11_water 4 = .ok (.iload_n 2, 1) := by decide +kernel
theorem dX11_water_5 : decode cX11_water 5 = .ok (.iconst 1, 1) := by decide +kernel
theorem dX11_water_6 : decode cX11_water 6 = .ok (.sipush 999, 3) := by decide +kernel
theorem dX11_water_9 : decode cX11_water 9 = .ok (.invokestatic 99, 3) := by decide +kernel
theorem dX11_water_12 : decode cX11_water 12 = .ok (.ifCond .eq 21, 3) := by decide +kernel
theorem dX11_water_15 : decode cX11_water 15 = .ok (.aload_n 0, 1) := by decide +kernel
theorem dX11_water_16 : decode cX11_water 16 = .ok (.getfield 19, 3) := by decide +kernel
theorem dX11_water_19 : decode cX11_water 19 = .ok (.getfield 140, 3) := by decide +kernel
theorem dX11_water_22 : decode cX11_water 22 = .ok (.istore_n 3, 1) := by decide +kernel
theorem dX11_water_23 : decode cX11_water 23 = .ok (.aload_n 0, 1) := by decide +kernel
theorem dX11_water_24 : decode cX11_water 24 = .ok (.getfield 19, 3) := by decide +kernel
theorem dX11_water_27 : decode cX11_water 27 = .ok (.iload_n 2, 1) := by decide +kernel
theorem dX11_water_28 : decode cX11_water 28 = .ok (.putfield 140, 3) := by decide +kernel
theorem dX11_water_31 : decode cX11_water 31 = .ok (.iload_n 3, 1) := by decide +kernel
theorem dX11_water_32 : decode cX11_water 32 = .ok (.ireturn, 1) := by decide +kernel
theorem dX11_water_33 : decode cX11_water 33 = .ok (.iload_n 1, 1) := by decide +kernel
theorem dX11_water_34 : decode cX11_water 34 = .ok (.iconst 1, 1) := by decide +kernel
theorem dX11_water_35 : decode cX11_water 35 = .ok (.if_icmp .ne 32, 3) := by decide +kernel
theorem dX11_water_38 : decode cX11_water 38 = .ok (.iload_n 2, 1) := by decide +kernel
theorem dX11_water_39 : decode cX11_water 39 = .ok (.bipush (-99), 2) := by decide +kernel
theorem dX11_water_41 : decode cX11_water 41 = .ok (.bipush 99, 2) := by decide +kernel
theorem dX11_water_43 : decode cX11_water 43 = .ok (.invokestatic 99, 3) := by decide +kernel
theorem dX11_water_46 : decode cX11_water 46 = .ok (.ifCond .eq 21, 3) := by decide +kernel
theorem dX11_water_49 : decode cX11_water 49 = .ok (.aload_n 0, 1) := by decide +kernel
theorem dX11_water_50 : decode cX11_water 50 = .ok (.getfield 19, 3) := by decide +kernel
theorem dX11_water_53 : decode cX11_water 53 = .ok (.getfield 143, 3) := by decide +kernel
theorem dX11_water_56 : decode cX11_water 56 = .ok (.istore_n 3, 1) := by decide +kernel
theorem dX11_water_57 : decode cX11_water 57 = .ok (.aload_n 0, 1) := by decide +kernel
theorem dX11_water_58 : decode cX11_water 58 = .ok (.getfield 19, 3) := by decide +kernel
theorem dX11_water_61 : decode cX11_water 61 = .ok (.iload_n 2, 1) := by decide +kernel
theorem dX11_water_62 : decode cX11_water 62 = .ok (.putfield 143, 3) := by decide +kernel
theorem dX11_water_65 : decode cX11_water 65 = .ok (.iload_n 3, 1) := by decide +kernel
theorem dX11_water_66 : decode cX11_water 66 = .ok (.ireturn, 1) := by decide +kernel
theorem dX11_water_67 : decode cX11_water 67 = .ok (.sipush (-1000), 3) := by decide +kernel
theorem dX11_water_70 : decode cX11_water 70 = .ok (.ireturn, 1) := by decide +kernel
theorem dX11_stroke_0 : decode cX11_stroke 0 = .ok (.iload_n 1, 1) := by decide +kernel
theorem dX11_stroke_1 : decode cX11_stroke 1 = .ok (.invokestatic 146, 3) := by decide +kernel
theorem dX11_stroke_4 : decode cX11_stroke 4 = .ok (.ifCond .eq 21, 3) := by decide +kernel
theorem dX11_stroke_7 : decode cX11_stroke 7 = .ok (.iload_n 2, 1) := by decide +kernel
theorem dX11_stroke_8 : decode cX11_stroke 8 = .ok (.iconst 0, 1) := by decide +kernel
theorem dX11_stroke_9 : decode cX11_stroke 9 = .ok (.sipush 999, 3) := by decide +kernel
theorem dX11_stroke_12 : decode cX11_stroke 12 = .ok (.invokestatic 99, 3) := by decide +kernel
theorem dX11_stroke_15 : decode cX11_stroke 15 = .ok (.ifCond .eq 10, 3) := by decide +kernel
theorem dX11_stroke_18 : decode cX11_stroke 18 = .ok (.iload_n 3, 1) := by decide +kernel
theorem dX11_stroke_19 : decode cX11_stroke 19 = .ok (.invokestatic 127, 3) := by decide +kernel
theorem dX11_stroke_22 : decode cX11_stroke 22 = .ok (.ifCond .ne 6, 3) := by decide +kernel
theorem dX11_stroke_25 : decode cX11_stroke 25 = .ok (.bipush (-2), 2) := by decide +kernel
theorem dX11_stroke_27 : decode cX11_stroke 27 = .ok (.ireturn, 1) := by decide +kernel
theorem dX11_stroke_28 : decode cX11_stroke 28 = .ok (.iload 4, 2) := by decide +kernel
theorem dX11_stroke_30 : decode cX11_stroke 30 = .ok (.tableswitch 44 0 2 #[26, 33, 39], 26) := by decide +kernel
theorem dX11_stroke_56 : decode cX11_stroke 56 = .ok (.iload_n 1, 1) := by decide +kernel
theorem dX11_stroke_57 : decode cX11_stroke 57 = .ok (.iload_n 2, 1) := by decide +kernel
theorem dX11_stroke_58 : decode cX11_stroke 58 = .ok (.iload_n 3, 1) := by decide +kernel
theorem dX11_stroke_59 : decode cX11_stroke 59 = .ok (.invokestatic 149, 3) := by decide +kernel
theorem dX11_stroke_62 : decode cX11_stroke 62 = .ok (.ireturn, 1) := by decide +kernel
theorem dX11_stroke_63 : decode cX11_stroke 63 = .ok (.iload_n 1, 1) := by decide +kernel
theorem dX11_stroke_64 : decode cX11_stroke 64 = .ok (.iload_n 2, 1) := by decide +kernel
theorem dX11_stroke_65 : decode cX11_stroke 65 = .ok (.invokestatic 153, 3) := by decide +kernel
theorem dX11_stroke_68 : decode cX11_stroke 68 = .ok (.ireturn, 1) := by decide +kernel
theorem dX11_stroke_69 : decode cX11_stroke 69 = .ok (.iload_n 1, 1) := by decide +kernel
theorem dX11_stroke_70 : decode cX11_stroke 70 = .ok (.invokestatic 156, 3) := by decide +kernel
theorem dX11_stroke_73 : decode cX11_stroke 73 = .ok (.ireturn, 1) := by decide +kernel
theorem dX11_stroke_74 : decode cX11_stroke 74 = .ok (.bipush (-2), 2) := by decide +kernel
theorem dX11_stroke_76 : decode cX11_stroke 76 = .ok (.ireturn, 1) := by decide +kernel
theorem dX11_feed_0 : decode cX11_feed 0 = .ok (.iload_n 1, 1) := by decide +kernel
theorem dX11_feed_1 : decode cX11_feed 1 = .ok (.iconst 1, 1) := by decide +kernel
theorem dX11_feed_2 : decode cX11_feed 2 = .ok (.bipush 8, 2) := by decide +kernel
theorem dX11_feed_4 : decode cX11_feed 4 = .ok (.invokestatic 99, 3) := by decide +kernel
theorem dX11_feed_7 : decode cX11_feed 7 = .ok (.ifCond .ne 6, 3) := by decide +kernel
theorem dX11_feed_10 : decode cX11_feed 10 = .ok (.bipush (-2), 2) := by decide +kernel
theorem dX11_feed_12 : decode cX11_feed 12 = .ok (.ireturn, 1) := by decide +kernel
theorem dX11_feed_13 : decode cX11_feed 13 = .ok (.aload_n 0, 1) := by decide +kernel
theorem dX11_feed_14 : decode cX11_feed 14 = .ok (.getfield 37, 3) := by decide +kernel
theorem dX11_feed_17 : decode cX11_feed 17 = .ok (.iload_n 1, 1) := by decide +kernel
theorem dX11_feed_18 : decode cX11_feed 18 = .ok (.lload_n 2, 1) := by decide +kernel
theorem dX11_feed_19 : decode cX11_feed 19 = .ok (.invokevirtual 159, 3) := by decide +kernel
theorem dX11_feed_22 : decode cX11_feed 22 = .ok (.ireturn, 1) := by decide +kernel
theorem dX11_force_0 : decode cX11_force 0 = .ok (.iload_n 1, 1) := by decide +kernel
theorem dX11_force_1 : decode cX11_force 1 = .ok (.iconst 0, 1) := by decide +kernel
theorem dX11_force_2 : decode cX11_force 2 = .ok (.aload_n 0, 1) := by decide +kernel
theorem dX11_force_3 : decode cX11_force 3 = .ok (.getfield 59, 3) := by decide +kernel
theorem dX11_force_6 : decode cX11_force 6 = .ok (.iconst 1, 1) := by decide +kernel
theorem dX11_force_7 : decode cX11_force 7 = .ok (.isub, 1) := by decide +kernel
theorem dX11_force_8 : decode cX11_force 8 = .ok (.invokestatic 99, 3) := by decide +kernel
theorem dX11_force_11 : decode cX11_force 11 = .ok (.ifCond .ne 6, 3) := by decide +kernel
theorem dX11_force_14 : decode cX11_force 14 = .ok (.bipush (-2), 2) := by decide +kernel
theorem dX11_force_16 : decode cX11_force 16 = .ok (.ireturn, 1) := by decide +kernel
theorem dX11_force_17 : decode cX11_force 17 = .ok (.aload_n 0, 1) := by decide +kernel
theorem dX11_force_18 : decode cX11_force 18 = .ok (.getfield 173, 3) := by decide +kernel
theorem dX11_force_21 : decode cX11_force 21 = .ok (.istore_n 2, 1) := by decide +kernel
theorem dX11_force_22 : decode cX11_force 22 = .ok (.aload_n 0, 1) := by decide +kernel
theorem dX11_force_23 : decode cX11_force 23 = .ok (.iload_n 1, 1) := by decide +kernel
theorem dX11_force_24 : decode cX11_force 24 = .ok (.putfield 173, 3) := by decide +kernel
theorem dX11_force_27 : decode cX11_force 27 = .ok (.iload_n 2, 1) := by decide +kernel
theorem dX11_force_28 : decode cX11_force 28 = .ok (.ireturn, 1) := by decide +kernel
theorem dX11_plan_0 : decode cX11_plan 0 = .ok (.aload_n 0, 1) := by decide +kernel
theorem dX11_plan_1 : decode cX11_plan 1 = .ok (.getfield 65, 3) := by decide +kernel
theorem dX11_plan_4 : decode cX11_plan 4 = .ok (.invokevirtual 176, 3) := by decide +kernel
theorem dX11_plan_7 : decode cX11_plan 7 = .ok (.ifCond .eq 6, 3) := by decide +kernel
theorem dX11_plan_10 : decode cX11_plan 10 = .ok (.bipush (-4), 2) := by decide +kernel
theorem dX11_plan_12 : decode cX11_plan 12 = .ok (.ireturn, 1) := by decide +kernel
theorem dX11_plan_13 : decode cX11_plan 13 = .ok (.aload_n 0, 1) := by decide +kernel
theorem dX11_plan_14 : decode cX11_plan 14 = .ok (.getfield 65, 3) := by decide +kernel
theorem dX11_plan_17 : decode cX11_plan 17 = .ok (.invokevirtual 180, 3) := by decide +kernel
theorem dX11_plan_20 : decode cX11_plan 20 = .ok (.istore_n 1, 1) := by decide +kernel
theorem dX11_plan_21 : decode cX11_plan 21 = .ok (.aload_n 0, 1) := by decide +kernel
theorem dX11_plan_22 : decode cX11_plan 22 = .ok (.getfield 37, 3) := by decide +kernel
theorem dX11_plan_25 : decode cX11_plan 25 = .ok (.iconst 0, 1) := by decide +kernel
theorem dX11_plan_26 : decode cX11_plan 26 = .ok (.putfield 166, 3) := by decide +kernel
theorem dX11_plan_29 : decode cX11_plan 29 = .ok (.iload_n 1, 1) := by decide +kernel
theorem dX11_plan_30 : decode cX11_plan 30 = .ok (.iconst (-1), 1) := by decide +kernel
theorem dX11_plan_31 : decode cX11_plan 31 = .ok (.if_icmp .ne 15, 3) := by decide +kernel
theorem dX11_plan_34 : decode cX11_plan 34 = .ok (.aload_n 0, 1) := by decide +kernel
theorem dX11_plan_35 : decode cX11_plan 35 = .ok (.getfield 65, 3) := by decide +kernel
theorem dX11_plan_38 : decode cX11_plan 38 = .ok (.getfield 183, 3) := by decide +kernel
theorem dX11_plan_41 : decode cX11_plan 41 = .ok (.iconst 1, 1) := by decide +kernel
theorem dX11_plan_42 : decode cX11_plan 42 = .ok (.isub, 1) := by decide +kernel
theorem dX11_plan_43 : decode cX11_plan 43 = .ok (.goto 7, 3) := by decide +kernel
theorem dX11_plan_46 : decode cX11_plan 46 = .ok (.bipush (-100), 2) := by decide +kernel
theorem dX11_plan_48 : decode cX11_plan 48 = .ok (.iload_n 1, 1) := by decide +kernel
theorem dX11_plan_49 : decode cX11_plan 49 = .ok (.isub, 1) := by decide +kernel
theorem dX11_plan_50 : decode cX11_plan 50 = .ok (.ireturn, 1) := by decide +kernel
theorem dX11_planned_0 : decode cX11_planned 0 = .ok (.aload_n 0, 1) := by decide +kernel
theorem dX11_planned_1 : decode cX11_planned 1 = .ok (.getfield 65, 3) := by decide +kernel
theorem dX11_planned_4 : decode cX11_planned 4 = .ok (.iload_n 1, 1) := by decide +kernel
theorem dX11_planned_5 : decode cX11_planned 5 = .ok (.invokevirtual 184, 3) := by decide +kernel
theorem dX11_planned_8 : decode cX11_planned 8 = .ok (.ifCond .ne 5, 3) := by decide +kernel
theorem dX11_planned_11 : decode cX11_planned 11 = .ok (.iconst (-1), 1) := by decide +kernel
theorem dX11_planned_12 : decode cX11_planned 12 = .ok (.ireturn, 1) := by decide +kernel
theorem dX11_planned_13 : decode cX11_planned 13 = .ok (.iload_n 2, 1) := by decide +kernel
theorem dX11_planned_14 : decode cX11_planned 14 = .ok (.iconst (-1), 1) := by decide +kernel
theorem dX11_planned_15 : decode cX11_planned 15 = .ok (.if_icmp .ne 15, 3) := by decide +kernel
theorem dX11_planned_18 : decode cX11_planned 18 = .ok (.aload_n 0, 1) := by decide +kernel
theorem dX11_planned_19 : decode cX11_planned 19 = .ok (.getfield 65, 3) := by decide +kernel
theorem dX11_planned_22 : decode cX11_planned 22 = .ok (.getfield 185, 3) := by decide +kernel
theorem dX11_planned_25 : decode cX11_planned 25 = .ok (.iload_n 1, 1) := by decide +kernel
theorem dX11_planned_26 : decode cX11_planned 26 = .ok (.iaload, 1) := by decide +kernel
theorem dX11_planned_27 : decode cX11_planned 27 = .ok (.goto 12, 3) := by decide +kernel
theorem dX11_planned_30 : decode cX11_planned 30 = .ok (.aload_n 0, 1) := by decide +kernel
theorem dX11_planned_31 : decode cX11_planned 31 = .ok (.getfield 65, 3) := by decide +kernel
theorem dX11_planned_34 : decode cX11_planned 34 = .ok (.iload_n 1, 1) := by decide +kernel
theorem dX11_planned_35 : decode cX11_planned 35 = .ok (.iload_n 2, 1) := by decide +kernel
theorem dX11_planned_36 : decode cX11_planned 36 = .ok (.invokevirtual 188, 3) := by decide +kernel
theorem dX11_planned_39 : decode cX11_planned 39 = .ok (.ireturn, 1) := by decide +kernel
theorem dX11_rowBy_0 : decode cX11_rowBy 0 = .ok (.aload_n 0, 1) := by decide +kernel
theorem dX11_rowBy_1 : decode cX11_rowBy 1 = .ok (.getfield 74, 3) := by decide +kernel
theorem dX11_rowBy_4 : decode cX11_rowBy 4 = .ok (.aload_n 0, 1) := by decide +kernel
theorem dX11_rowBy_5 : decode cX11_rowBy 5 = .ok (.getfield 52, 3) := by decide +kernel
theorem dX11_rowBy_8 : decode cX11_rowBy 8 = .ok (.aload_n 0, 1) := by decide +kernel
theorem dX11_rowBy_9 : decode cX11_rowBy 9 = .ok (.getfield 173, 3) := by decide +kernel
theorem dX11_rowBy_12 : decode cX11_rowBy 12 = .ok (.aaload, 1) := by decide +kernel
theorem dX11_rowBy_13 : decode cX11_rowBy 13 = .ok (.invokevirtual 227, 3) := by decide +kernel
theorem dX11_rowBy_16 : decode cX11_rowBy 16 = .ok (.aload_n 0, 1) := by decide +kernel
theorem dX11_rowBy_17 : decode cX11_rowBy 17 = .ok (.getfield 74, 3) := by decide +kernel
theorem dX11_rowBy_20 : decode cX11_rowBy 20 = .ok (.aload_n 0, 1) := by decide +kernel
theorem dX11_rowBy_21 : decode cX11_rowBy 21 = .ok (.getfield 65, 3) := by decide +kernel
theorem dX11_rowBy_24 : decode cX11_rowBy 24 = .ok (.getfield 337, 3) := by decide +kernel
theorem dX11_rowBy_27 : decode cX11_rowBy 27 = .ok (.iload_n 1, 1) := by decide +kernel
theorem dX11_rowBy_28 : decode cX11_rowBy 28 = .ok (.aaload, 1) := by decide +kernel
theorem dX11_rowBy_29 : decode cX11_rowBy 29 = .ok (.aload_n 0, 1) := by decide +kernel
theorem dX11_rowBy_30 : decode cX11_rowBy 30 = .ok (.getfield 65, 3) := by decide +kernel
theorem dX11_rowBy_33 : decode cX11_rowBy 33 = .ok (.getfield 185, 3) := by decide +kernel
theorem dX11_rowBy_36 : decode cX11_rowBy 36 = .ok (.iload_n 1, 1) := by decide +kernel
theorem dX11_rowBy_37 : decode cX11_rowBy 37 = .ok (.iaload, 1) := by decide +kernel
theorem dX11_rowBy_38 : decode cX11_rowBy 38 = .ok (.invokevirtual 340, 3) := by decide +kernel
theorem dX11_rowBy_41 : decode cX11_rowBy 41 = .ok (.return_, 1) := by decide +kernel
theorem dX11_row_0 : decode cX11_row 0 = .ok (.aload_n 0, 1) := by decide +kernel
theorem dX11_row_1 : decode cX11_row 1 = .ok (.getfield 65, 3) := by decide +kernel
theorem dX11_row_4 : decode cX11_row 4 = .ok (.iload_n 1, 1) := by decide +kernel
theorem dX11_row_5 : decode cX11_row 5 = .ok (.invokevirtual 184, 3) := by decide +kernel
theorem dX11_row_8 : decode cX11_row 8 = .ok (.ifCond .eq 12, 3) := by decide +kernel
theorem dX11_row_11 : decode cX11_row 11 = .ok (.iload_n 2, 1) := by decide +kernel
theorem dX11_row_12 : decode cX11_row 12 = .ok (.iconst 0, 1) := by decide +kernel
theorem dX11_row_13 : decode cX11_row 13 = .ok (.iconst 4, 1) := by decide +kernel
theorem dX11_row_14 : decode cX11_row 14 = .ok (.invokestatic 99, 3) := by decide +kernel
theorem dX11_row_17 : decode cX11_row 17 = .ok (.ifCond .ne 7, 3) := by decide +kernel
theorem dX11_row_20 : decode cX11_row 20 = .ok (.ldc2_w 191, 3) := by decide +kernel
theorem dX11_row_23 : decode cX11_row 23 = .ok (.lreturn, 1) := by decide +kernel
theorem dX11_row_24 : decode cX11_row 24 = .ok (.aload_n 0, 1) := by decide +kernel
theorem dX11_row_25 : decode cX11_row 25 = .ok (.iload_n 1, 1) := by decide +kernel
theorem dX11_row_26 : decode cX11_row 26 = .ok (.invokevirtual 193, 3) := by decide +kernel
theorem dX11_row_29 : decode cX11_row 29 = .ok (.iload_n 2, 1) := by decide +kernel
theorem dX11_row_30 : decode cX11_row 30 = .ok (.tableswitch 63 0 3 #[30, 38, 47, 55], 30) := by decide +kernel
theorem dX11_row_60 : decode cX11_row 60 = .ok (.aload_n 0, 1) := by decide +kernel
theorem dX11_row_61 : decode cX11_row 61 = .ok (.getfield 74, 3) := by decide +kernel
theorem dX11_row_64 : decode cX11_row 64 = .ok (.getfield 197, 3) := by decide +kernel
theorem dX11_row_67 : decode cX11_row 67 = .ok (.lreturn, 1) := by decide +kernel
theorem dX11_row_68 : decode cX11_row 68 = .ok (.aload_n 0, 1) := by decide +kernel
theorem dX11_row_69 : decode cX11_row 69 = .ok (.getfield 74, 3) := by decide +kernel
theorem dX11_row_72 : decode cX11_row 72 = .ok (.getfield 201, 3) := by decide +kernel
theorem dX11_row_75 : decode cX11_row 75 = .ok (.i2l, 1) := by decide +kernel
theorem dX11_row_76 : decode cX11_row 76 = .ok (.lreturn, 1) := by decide +kernel
theorem dX11_row_77 : decode cX11_row 77 = .ok (.aload_n 0, 1) := by decide +kernel
theorem dX11_row_78 : decode cX11_row 78 = .ok (.getfield 74, 3) := by decide +kernel
theorem dX11_row_81 : decode cX11_row 81 = .ok (.getfield 204, 3) := by decide +kernel
theorem dX11_row_84 : decode cX11_row 84 = .ok (.lreturn, 1) := by decide +kernel
theorem dX11_row_85 : decode cX11_row 85 = .ok (.aload_n 0, 1) := by decide +kernel
theorem dX11_row_86 : decode cX11_row 86 = .ok (.getfield 74, 3) := by decide +kernel
theorem dX11_row_89 : decode cX11_row 89 = .ok (.getfield 207, 3) := by decide +kernel
theorem dX11_row_92 : decode cX11_row 92 = .ok (.lreturn, 1) := by decide +kernel
theorem dX11_row_93 : decode cX11_row 93 = .ok (.aload_n 0, 1) := by decide +kernel
theorem dX11_row_94 : decode cX11_row 94 = .ok (.getfield 74, 3) := by decide +kernel
theorem dX11_row_97 : decode cX11_row 97 = .ok (.getfield 210, 3) := by decide +kernel
theorem dX11_row_100 : decode cX11_row 100 = .ok (.lreturn, 1) := by decide +kernel
theorem dX11_left_0 : decode cX11_left 0 = .ok (.aload_n 0, 1) := by decide +kernel
theorem dX11_left_1 : decode cX11_left 1 = .ok (.getfield 65, 3) := by decide +kernel
theorem dX11_left_4 : decode cX11_left 4 = .ok (.iload_n 1, 1) := by decide +kernel
theorem dX11_left_5 : decode cX11_left 5 = .ok (.invokevirtual 184, 3) := by decide +kernel
theorem dX11_left_8 : decode cX11_left 8 = .ok (.ifCond .eq 14, 3) := by decide +kernel
theorem dX11_left_11 : decode cX11_left 11 = .ok (.aload_n 0, 1) := by decide +kernel
theorem dX11_left_12 : decode cX11_left 12 = .ok (.getfield 10, 3) := by decide +kernel
theorem dX11_left_15 : decode cX11_left 15 = .ok (.iload_n 2, 1) := by decide +kernel
theorem dX11_left_16 : decode cX11_left 16 = .ok (.invokevirtual 107, 3) := by decide +kernel
theorem dX11_left_19 : decode cX11_left 19 = .ok (.ifCond .ne 6, 3) := by decide +kernel
theorem dX11_left_22 : decode cX11_left 22 = .ok (.bipush (-5), 2) := by decide +kernel
theorem dX11_left_24 : decode cX11_left 24 = .ok (.ireturn, 1) := by decide +kernel
theorem dX11_left_25 : decode cX11_left 25 = .ok (.aload_n 0, 1) := by decide +kernel
theorem dX11_left_26 : decode cX11_left 26 = .ok (.iload_n 1, 1) := by decide +kernel
theorem dX11_left_27 : decode cX11_left 27 = .ok (.invokevirtual 193, 3) := by decide +kernel
theorem dX11_left_30 : decode cX11_left 30 = .ok (.aload_n 0, 1) := by decide +kernel
theorem dX11_left_31 : decode cX11_left 31 = .ok (.getfield 74, 3) := by decide +kernel
theorem dX11_left_34 : decode cX11_left 34 = .ok (.getfield 213, 3) := by decide +kernel
theorem dX11_left_37 : decode cX11_left 37 = .ok (.iload_n 2, 1) := by decide +kernel
theorem dX11_left_38 : decode cX11_left 38 = .ok (.iaload, 1) := by decide +kernel
theorem dX11_left_39 : decode cX11_left 39 = .ok (.ireturn, 1) := by decide +kernel
theorem dX11_rown_0 : decode cX11_rown 0 = .ok (.aload_n 0, 1) := by decide +kernel
theorem dX11_rown_1 : decode cX11_rown 1 = .ok (.getfield 65, 3) := by decide +kernel
theorem dX11_rown_4 : decode cX11_rown 4 = .ok (.iload_n 1, 1) := by decide +kernel
theorem dX11_rown_5 : decode cX11_rown 5 = .ok (.invokevirtual 184, 3) := by decide +kernel
theorem dX11_rown_8 : decode cX11_rown 8 = .ok (.ifCond .ne 7, 3) := by decide +kernel
theorem dX11_rown_11 : decode cX11_rown 11 = .ok (.ldc2_w 191, 3) := by decide +kernel
theorem dX11_rown_14 : decode cX11_rown 14 = .ok (.lreturn, 1) := by decide +kernel
theorem dX11_rown_15 : decode cX11_rown 15 = .ok (.aload_n 0, 1) := by decide +kernel
theorem dX11_rown_16 : decode cX11_rown 16 = .ok (.iload_n 1, 1) := by decide +kernel
theorem dX11_rown_17 : decode cX11_rown 17 = .ok (.invokevirtual 193, 3) := by decide +kernel
theorem dX11_rown_20 : decode cX11_rown 20 = .ok (.aload_n 0, 1) := by decide +kernel
theorem dX11_rown_21 : decode cX11_rown 21 = .ok (.getfield 74, 3) := by decide +kernel
theorem dX11_rown_24 : decode cX11_rown 24 = .ok (.getfield 213, 3) := by decide +kernel
theorem dX11_rown_27 : decode cX11_rown 27 = .ok (.iconst 0, 1) := by decide +kernel
theorem dX11_rown_28 : decode cX11_rown 28 = .ok (.aload_n 0, 1) := by decide +kernel
theorem dX11_rown_29 : decode cX11_rown 29 = .ok (.getfield 10, 3) := by decide +kernel
theorem dX11_rown_32 : decode cX11_rown 32 = .ok (.getfield 117, 3) := by decide +kernel
theorem dX11_rown_35 : decode cX11_rown 35 = .ok (.iconst 0, 1) := by decide +kernel
theorem dX11_rown_36 : decode cX11_rown 36 = .ok (.bipush 16, 2) := by decide +kernel
theorem dX11_rown_38 : decode cX11_rown 38 = .ok (.invokestatic 214, 3) := by decide +kernel
theorem dX11_rown_41 : decode cX11_rown 41 = .ok (.aload_n 0, 1) := by decide +kernel
theorem dX11_rown_42 : decode cX11_rown 42 = .ok (.getfield 74, 3) := by decide +kernel
theorem dX11_rown_45 : decode cX11_rown 45 = .ok (.getfield 197, 3) := by decide +kernel
theorem dX11_rown_48 : decode cX11_rown 48 = .ok (.lreturn, 1) := by decide +kernel
theorem dX11_wayIfChanged_0 : decode cX11_wayIfChanged 0 = .ok (.aload_n 0, 1) := by decide +kernel
theorem dX11_wayIfChanged_1 : decode cX11_wayIfChanged 1 = .ok (.getfield 74, 3) := by decide +kernel
theorem dX11_wayIfChanged_4 : decode cX11_wayIfChanged 4 = .ok (.aload_n 0, 1) := by decide +kernel
theorem dX11_wayIfChanged_5 : decode cX11_wayIfChanged 5 = .ok (.getfield 52, 3) := by decide +kernel
theorem dX11_wayIfChanged_8 : decode cX11_wayIfChanged 8 = .ok (.aload_n 0, 1) := by decide +kernel
theorem dX11_wayIfChanged_9 : decode cX11_wayIfChanged 9 = .ok (.getfield 173, 3) := by decide +kernel
theorem dX11_wayIfChanged_12 : decode cX11_wayIfChanged 12 = .ok (.aaload, 1) := by decide +kernel
theorem dX11_wayIfChanged_13 : decode cX11_wayIfChanged 13 = .ok (.invokevirtual 227, 3) := by decide +kernel
theorem dX11_wayIfChanged_16 : decode cX11_wayIfChanged 16 = .ok (.aload_n 0, 1) := by decide +kernel
theorem dX11_wayIfChanged_17 : decode cX11_wayIfChanged 17 = .ok (.getfield 74, 3) := by decide +kernel
theorem dX11_wayIfChanged_20 : decode cX11_wayIfChanged 20 = .ok (.iload_n 2, 1) := by decide +kernel
theorem dX11_wayIfChanged_21 : decode cX11_wayIfChanged 21 = .ok (.iload_n 3, 1) := by decide +kernel
theorem dX11_wayIfChanged_22 : decode cX11_wayIfChanged 22 = .ok (.invokevirtual 343, 3) := by decide +kernel
theorem dX11_wayIfChanged_25 : decode cX11_wayIfChanged 25 = .ok (.aload_n 0, 1) := by decide +kernel
theorem dX11_wayIfChanged_26 : decode cX11_wayIfChanged 26 = .ok (.getfield 74, 3) := by decide +kernel
theorem dX11_wayIfChanged_29 : decode cX11_wayIfChanged 29 = .ok (.aload_n 0, 1) := by decide +kernel
theorem dX11_wayIfChanged_30 : decode cX11_wayIfChanged 30 = .ok (.getfield 65, 3) := by decide +kernel
theorem dX11_wayIfChanged_33 : decode cX11_wayIfChanged 33 = .ok (.getfield 337, 3) := by decide +kernel
theorem dX11_wayIfChanged_36 : decode cX11_wayIfChanged 36 = .ok (.iload_n 1, 1) := by decide +kernel
theorem dX11_wayIfChanged_37 : decode cX11_wayIfChanged 37 = .ok (.aaload, 1) := by decide +kernel
theorem dX11_wayIfChanged_38 : decode cX11_wayIfChanged 38 = .ok (.aload_n 0, 1) := by decide +kernel
theorem dX11_wayIfChanged_39 : decode cX11_wayIfChanged 39 = .ok (.getfield 65, 3) := by decide +kernel
theorem dX11_wayIfChanged_42 : decode cX11_wayIfChanged 42 = .ok (.getfield 185, 3) := by decide +kernel
theorem dX11_wayIfChanged_45 : decode cX11_wayIfChanged 45 = .ok (.iload_n 1, 1) := by decide +kernel
theorem dX11_wayIfChanged_46 : decode cX11_wayIfChanged 46 = .ok (.iaload, 1) := by decide +kernel
theorem dX11_wayIfChanged_47 : decode cX11_wayIfChanged 47 = .ok (.invokevirtual 340, 3) := by decide +kernel
theorem dX11_wayIfChanged_50 : decode cX11_wayIfChanged 50 = .ok (.aload_n 0, 1) := by decide +kernel
theorem dX11_wayIfChanged_51 : decode cX11_wayIfChanged 51 = .ok (.getfield 74, 3) := by decide +kernel
theorem dX11_wayIfChanged_54 : decode cX11_wayIfChanged 54 = .ok (.getfield 197, 3) := by decide +kernel
theorem dX11_wayIfChanged_57 : decode cX11_wayIfChanged 57 = .ok (.lreturn, 1) := by decide +kernel
theorem dX11_more_0 : decode cX11_more 0 = .ok (.aload_n 0, 1) := by decide +kernel
theorem dX11_more_1 : decode cX11_more 1 = .ok (.getfield 65, 3) := by decide +kernel
theorem dX11_more_4 : decode cX11_more 4 = .ok (.iload_n 1, 1) := by decide +kernel
theorem dX11_more_5 : decode cX11_more 5 = .ok (.invokevirtual 184, 3) := by decide +kernel
theorem dX11_more_8 : decode cX11_more 8 = .ok (.ifCond .eq 7, 3) := by decide +kernel
theorem dX11_more_11 : decode cX11_more 11 = .ok (.iload_n 2, 1) := by decide +kernel
theorem dX11_more_12 : decode cX11_more 12 = .ok (.ifCond .ge 7, 3) := by decide +kernel
theorem dX11_more_15 : decode cX11_more 15 = .ok (.ldc2_w 191, 3) := by decide +kernel
theorem dX11_more_18 : decode cX11_more 18 = .ok (.lreturn, 1) := by decide +kernel
theorem dX11_more_19 : decode cX11_more 19 = .ok (.iload_n 2, 1) := by decide +kernel
theorem dX11_more_20 : decode cX11_more 20 = .ok (.bipush 10, 2) := by decide +kernel
theorem dX11_more_22 : decode cX11_more 22 = .ok (.idiv, 1) := by decide +kernel
theorem dX11_more_23 : decode cX11_more 23 = .ok (.istore_n 3, 1) := by decide +kernel
theorem dX11_more_24 : decode cX11_more 24 = .ok (.iload_n 2, 1) := by decide +kernel
theorem dX11_more_25 : decode cX11_more 25 = .ok (.bipush 10, 2) := by decide +kernel
theorem dX11_more_27 : decode cX11_more 27 = .ok (.irem, 1) := by decide +kernel
theorem dX11_more_28 : decode cX11_more 28 = .ok (.istore 4, 2) := by decide +kernel
theorem dX11_more_30 : decode cX11_more 30 = .ok (.iload_n 3, 1) := by decide +kernel
theorem dX11_more_31 : decode cX11_more 31 = .ok (.invokestatic 127, 3) := by decide +kernel
theorem dX11_more_34 : decode cX11_more 34 = .ok (.ifCond .eq 17, 3) := by decide +kernel
theorem dX11_more_37 : decode cX11_more 37 = .ok (.iload 4, 2) := by decide +kernel
theorem dX11_more_39 : decode cX11_more 39 = .ok (.invokestatic 127, 3) := by decide +kernel
theorem dX11_more_42 : decode cX11_more 42 = .ok (.ifCond .eq 9, 3) := by decide +kernel
theorem dX11_more_45 : decode cX11_more 45 = .ok (.iload_n 3, 1) := by decide +kernel
theorem dX11_more_46 : decode cX11_more 46 = .ok (.iload 4, 2) := by decide +kernel
theorem dX11_more_48 : decode cX11_more 48 = .ok (.if_icmp .ne 7, 3) := by decide +kernel
theorem dX11_more_51 : decode cX11_more 51 = .ok (.ldc2_w 191, 3) := by decide +kernel
theorem dX11_more_54 : decode cX11_more 54 = .ok (.lreturn, 1) := by decide +kernel
theorem dX11_more_55 : decode cX11_more 55 = .ok (.aload_n 0, 1) := by decide +kernel
theorem dX11_more_56 : decode cX11_more 56 = .ok (.iload_n 1, 1) := by decide +kernel
theorem dX11_more_57 : decode cX11_more 57 = .ok (.invokevirtual 193, 3) := by decide +kernel
theorem dX11_more_60 : decode cX11_more 60 = .ok (.aload_n 0, 1) := by decide +kernel
theorem dX11_more_61 : decode cX11_more 61 = .ok (.getfield 74, 3) := by decide +kernel
theorem dX11_more_64 : decode cX11_more 64 = .ok (.getfield 197, 3) := by decide +kernel
theorem dX11_more_67 : decode cX11_more 67 = .ok (.lstore 5, 2) := by decide +kernel
theorem dX11_more_69 : decode cX11_more 69 = .ok (.aload_n 0, 1) := by decide +kernel
theorem dX11_more_70 : decode cX11_more 70 = .ok (.iload_n 1, 1) := by decide +kernel
theorem dX11_more_71 : decode cX11_more 71 = .ok (.iload_n 3, 1) := by decide +kernel
theorem dX11_more_72 : decode cX11_more 72 = .ok (.iload 4, 2) := by decide +kernel
theorem dX11_more_74 : decode cX11_more 74 = .ok (.invokevirtual 220, 3) := by decide +kernel
theorem dX11_more_77 : decode cX11_more 77 = .ok (.lload 5, 2) := by decide +kernel
theorem dX11_more_79 : decode cX11_more 79 = .ok (.lsub, 1) := by decide +kernel
theorem dX11_more_80 : decode cX11_more 80 = .ok (.lreturn, 1) := by decide +kernel
theorem dX11_change_0 : decode cX11_change 0 = .ok (.aload_n 0, 1) := by decide +kernel
theorem dX11_change_1 : decode cX11_change 1 = .ok (.getfield 65, 3) := by decide +kernel
theorem dX11_change_4 : decode cX11_change 4 = .ok (.iload_n 1, 1) := by decide +kernel
theorem dX11_change_5 : decode cX11_change 5 = .ok (.invokevirtual 184, 3) := by decide +kernel
theorem dX11_change_8 : decode cX11_change 8 = .ok (.ifCond .eq 12, 3) := by decide +kernel
theorem dX11_change_11 : decode cX11_change 11 = .ok (.iload_n 2, 1) := by decide +kernel
theorem dX11_change_12 : decode cX11_change 12 = .ok (.iconst 0, 1) := by decide +kernel
theorem dX11_change_13 : decode cX11_change 13 = .ok (.iconst 1, 1) := by decide +kernel
theorem dX11_change_14 : decode cX11_change 14 = .ok (.invokestatic 99, 3) := by decide +kernel
theorem dX11_change_17 : decode cX11_change 17 = .ok (.ifCond .ne 7, 3) := by decide +kernel
theorem dX11_change_20 : decode cX11_change 20 = .ok (.ldc2_w 191, 3) := by decide +kernel
theorem dX11_change_23 : decode cX11_change 23 = .ok (.lreturn, 1) := by decide +kernel
theorem dX11_change_24 : decode cX11_change 24 = .ok (.aload_n 0, 1) := by decide +kernel
theorem dX11_change_25 : decode cX11_change 25 = .ok (.iload_n 1, 1) := by decide +kernel
theorem dX11_change_26 : decode cX11_change 26 = .ok (.invokevirtual 193, 3) := by decide +kernel
theorem dX11_change_29 : decode cX11_change 29 = .ok (.aload_n 0, 1) := by decide +kernel
theorem dX11_change_30 : decode cX11_change 30 = .ok (.getfield 74, 3) := by decide +kernel
theorem dX11_change_33 : decode cX11_change 33 = .ok (.getfield 197, 3) := by decide +kernel
theorem dX11_change_36 : decode cX11_change 36 = .ok (.lstore_n 3, 1) := by decide +kernel
theorem dX11_change_37 : decode cX11_change 37 = .ok (.ldc2_w 191, 3) := by decide +kernel
theorem dX11_change_40 : decode cX11_change 40 = .ok (.lstore 5, 2) := by decide +kernel
theorem dX11_change_42 : decode cX11_change 42 = .ok (.iconst (-1), 1) := by decide +kernel
theorem dX11_change_43 : decode cX11_change 43 = .ok (.istore 7, 2) := by decide +kernel
theorem dX11_change_45 : decode cX11_change 45 = .ok (.iconst 0, 1) := by decide +kernel
theorem dX11_change_46 : decode cX11_change 46 = .ok (.istore 8, 2) := by decide +kernel
theorem dX11_change_48 : decode cX11_change 48 = .ok (.iload 8, 2) := by decide +kernel
theorem dX11_change_50 : decode cX11_change 50 = .ok (.bipush 8, 2) := by decide +kernel
theorem dX11_change_52 : decode cX11_change 52 = .ok (.if_icmp .ge 105, 3) := by decide +kernel
theorem dX11_change_55 : decode cX11_change 55 = .ok (.iload 8, 2) := by decide +kernel
theorem dX11_change_57 : decode cX11_change 57 = .ok (.iconst 1, 1) := by decide +kernel
theorem dX11_change_58 : decode cX11_change 58 = .ok (.iadd, 1) := by decide +kernel
theorem dX11_change_59 : decode cX11_change 59 = .ok (.istore 9, 2) := by decide +kernel
theorem dX11_change_61 : decode cX11_change 61 = .ok (.iload 9, 2) := by decide +kernel
theorem dX11_change_63 : decode cX11_change 63 = .ok (.bipush 8, 2) := by decide +kernel
theorem dX11_change_65 : decode cX11_change 65 = .ok (.if_icmp .ge 86, 3) := by decide +kernel
theorem dX11_change_68 : decode cX11_change 68 = .ok (.aload_n 0, 1) := by decide +kernel
theorem dX11_change_69 : decode cX11_change 69 = .ok (.getfield 19, 3) := by decide +kernel
theorem dX11_change_72 : decode cX11_change 72 = .ok (.getfield 224, 3) := by decide +kernel
theorem dX11_change_75 : decode cX11_change 75 = .ok (.iload 8, 2) := by decide +kernel
theorem dX11_change_77 : decode cX11_change 77 = .ok (.iaload, 1) := by decide +kernel
theorem dX11_change_78 : decode cX11_change 78 = .ok (.iconst (-1), 1) := by decide +kernel
theorem dX11_change_79 : decode cX11_change 79 = .ok (.if_icmp .ne 21, 3) := by decide +kernel
theorem dX11_change_82 : decode cX11_change 82 = .ok (.aload_n 0, 1) := by decide +kernel
theorem dX11_change_83 : decode cX11_change 83 = .ok (.getfield 19, 3) := by decide +kernel
theorem dX11_change_86 : decode cX11_change 86 = .ok (.getfield 224, 3) := by decide +kernel
theorem dX11_change_89 : decode cX11_change 89 = .ok (.iload 9, 2) := by decide +kernel
theorem dX11_change_91 : decode cX11_change 91 = .ok (.iaload, 1) := by decide +kernel
theorem dX11_change_92 : decode cX11_change 92 = .ok (.iconst (-1), 1) := by decide +kernel
theorem dX11_change_93 : decode cX11_change 93 = .ok (.if_icmp .ne 7, 3) := by decide +kernel
theorem dX11_change_96 : decode cX11_change 96 = .ok (.iconst 1, 1) := by decide +kernel
theorem dX11_change_97 : decode cX11_change 97 = .ok (.goto 4, 3) := by decide +kernel
theorem dX11_change_100 : decode cX11_change 100 = .ok (.iconst 0, 1) := by decide +kernel
theorem dX11_change_101 : decode cX11_change 101 = .ok (.istore 10, 2) := by decide +kernel
theorem dX11_change_103 : decode cX11_change 103 = .ok (.iload 10, 2) := by decide +kernel
theorem dX11_change_105 : decode cX11_change 105 = .ok (.ifCond .eq 7, 3) := by decide +kernel
theorem dX11_change_108 : decode cX11_change 108 = .ok (.lload_n 3, 1) := by decide +kernel
theorem dX11_change_109 : decode cX11_change 109 = .ok (.goto 12, 3) := by decide +kernel
theorem dX11_change_112 : decode cX11_change 112 = .ok (.aload_n 0, 1) := by decide +kernel
theorem dX11_change_113 : decode cX11_change 113 = .ok (.iload_n 1, 1) := by decide +kernel
theorem dX11_change_114 : decode cX11_change 114 = .ok (.iload 8, 2) := by decide +kernel
theorem dX11_change_116 : decode cX11_change 116 = .ok (.iload 9, 2) := by decide +kernel
theorem dX11_change_118 : decode cX11_change 118 = .ok (.invokevirtual 220, 3) := by decide +kernel
theorem dX11_change_121 : decode cX11_change 121 = .ok (.lstore 11, 2) := by decide +kernel
theorem dX11_change_123 : decode cX11_change 123 = .ok (.lload 11, 2) := by decide +kernel
theorem dX11_change_125 : decode cX11_change 125 = .ok (.lload 5, 2) := by decide +kernel
theorem dX11_change_127 : decode cX11_change 127 = .ok (.lcmp, 1) := by decide +kernel
theorem dX11_change_128 : decode cX11_change 128 = .ok (.ifCond .le 17, 3) := by decide +kernel
theorem dX11_change_131 : decode cX11_change 131 = .ok (.lload 11, 2) := by decide +kernel
theorem dX11_change_133 : decode cX11_change 133 = .ok (.lstore 5, 2) := by decide +kernel
theorem dX11_change_135 : decode cX11_change 135 = .ok (.bipush 10, 2) := by decide +kernel
theorem dX11_change_137 : decode cX11_change 137 = .ok (.iload 8, 2) := by decide +kernel
theorem dX11_change_139 : decode cX11_change 139 = .ok (.imul, 1) := by decide +kernel
theorem dX11_change_140 : decode cX11_change 140 = .ok (.iload 9, 2) := by decide +kernel
theorem dX11_change_142 : decode cX11_change 142 = .ok (.iadd, 1) := by decide +kernel
theorem dX11_change_143 : decode cX11_change 143 = .ok (.istore 7, 2) := by decide +kernel
theorem dX11_change_145 : decode cX11_change 145 = .ok (.iinc 9 1, 3) := by decide +kernel
theorem dX11_change_148 : decode cX11_change 148 = .ok (.goto (-87), 3) := by decide +kernel
theorem dX11_change_151 : decode cX11_change 151 = .ok (.iinc 8 1, 3) := by decide +kernel
theorem dX11_change_154 : decode cX11_change 154 = .ok (.goto (-106), 3) := by decide +kernel
theorem dX11_change_157 : decode cX11_change 157 = .ok (.iload_n 2, 1) := by decide +kernel
theorem dX11_change_158 : decode cX11_change 158 = .ok (.ifCond .ne 9, 3) := by decide +kernel
theorem dX11_change_161 : decode cX11_change 161 = .ok (.iload 7, 2) := by decide +kernel
theorem dX11_change_163 : decode cX11_change 163 = .ok (.i2l, 1) := by decide +kernel
theorem dX11_change_164 : decode cX11_change 164 = .ok (.goto 7, 3) := by decide +kernel
theorem dX11_change_167 : decode cX11_change 167 = .ok (.lload 5, 2) := by decide +kernel
theorem dX11_change_169 : decode cX11_change 169 = .ok (.lload_n 3, 1) := by decide +kernel
theorem dX11_change_170 : decode cX11_change 170 = .ok (.lsub, 1) := by decide +kernel
theorem dX11_change_171 : decode cX11_change 171 = .ok (.lreturn, 1) := by decide +kernel
theorem dX11_order_0 : decode cX11_order 0 = .ok (.iload_n 1, 1) := by decide +kernel
theorem dX11_order_1 : decode cX11_order 1 = .ok (.iconst 0, 1) := by decide +kernel
theorem dX11_order_2 : decode cX11_order 2 = .ok (.iconst 2, 1) := by decide +kernel
theorem dX11_order_3 : decode cX11_order 3 = .ok (.invokestatic 99, 3) := by decide +kernel
theorem dX11_order_6 : decode cX11_order 6 = .ok (.ifCond .ne 7, 3) := by decide +kernel
theorem dX11_order_9 : decode cX11_order 9 = .ok (.ldc2_w 191, 3) := by decide +kernel
theorem dX11_order_12 : decode cX11_order 12 = .ok (.lreturn, 1) := by decide +kernel
theorem dX11_order_13 : decode cX11_order 13 = .ok (.aload_n 0, 1) := by decide +kernel
theorem dX11_order_14 : decode cX11_order 14 = .ok (.getfield 74, 3) := by decide +kernel
theorem dX11_order_17 : decode cX11_order 17 = .ok (.aload_n 0, 1) := by decide +kernel
theorem dX11_order_18 : decode cX11_order 18 = .ok (.getfield 52, 3) := by decide +kernel
theorem dX11_order_21 : decode cX11_order 21 = .ok (.aload_n 0, 1) := by decide +kernel
theorem dX11_order_22 : decode cX11_order 22 = .ok (.getfield 173, 3) := by decide +kernel
theorem dX11_order_25 : decode cX11_order 25 = .ok (.aaload, 1) := by decide +kernel
theorem dX11_order_26 : decode cX11_order 26 = .ok (.invokevirtual 227, 3) := by decide +kernel
theorem dX11_order_29 : decode cX11_order 29 = .ok (.aload_n 0, 1) := by decide +kernel
theorem dX11_order_30 : decode cX11_order 30 = .ok (.getfield 74, 3) := by decide +kernel
theorem dX11_order_33 : decode cX11_order 33 = .ok (.iconst 0, 1) := by decide +kernel
theorem dX11_order_34 : decode cX11_order 34 = .ok (.invokevirtual 231, 3) := by decide +kernel
theorem dX11_order_37 : decode cX11_order 37 = .ok (.iload_n 1, 1) := by decide +kernel
theorem dX11_order_38 : decode cX11_order 38 = .ok (.iconst 2, 1) := by decide +kernel
theorem dX11_order_39 : decode cX11_order 39 = .ok (.if_icmp .ne 14, 3) := by decide +kernel
theorem dX11_order_42 : decode cX11_order 42 = .ok (.aload_n 0, 1) := by decide +kernel
theorem dX11_order_43 : decode cX11_order 43 = .ok (.getfield 74, 3) := by decide +kernel
theorem dX11_order_46 : decode cX11_order 46 = .ok (.getfield 204, 3) := by decide +kernel
theorem dX11_order_49 : decode cX11_order 49 = .ok (.invokestatic 234, 3) := by decide +kernel
theorem dX11_order_52 : decode cX11_order 52 = .ok (.lreturn, 1) := by decide +kernel
theorem dX11_order_53 : decode cX11_order 53 = .ok (.iconst (-1), 1) := by decide +kernel
theorem dX11_order_54 : decode cX11_order 54 = .ok (.istore_n 2, 1) := by decide +kernel
theorem dX11_order_55 : decode cX11_order 55 = .ok (.lconst 0, 1) := by decide +kernel
theorem dX11_order_56 : decode cX11_order 56 = .ok (.lstore_n 3, 1) := by decide +kernel
theorem dX11_order_57 : decode cX11_order 57 = .ok (.iconst 0, 1) := by decide +kernel
theorem dX11_order_58 : decode cX11_order 58 = .ok (.istore 5, 2) := by decide +kernel
theorem dX11_order_60 : decode cX11_order 60 = .ok (.iload 5, 2) := by decide +kernel
theorem dX11_order_62 : decode cX11_order 62 = .ok (.sipush 256, 3) := by decide +kernel
theorem dX11_order_65 : decode cX11_order 65 = .ok (.if_icmp .ge 50, 3) := by decide +kernel
theorem dX11_order_68 : decode cX11_order 68 = .ok (.iload 5, 2) := by decide +kernel
theorem dX11_order_70 : decode cX11_order 70 = .ok (.invokestatic 240, 3) := by decide +kernel
theorem dX11_order_73 : decode cX11_order 73 = .ok (.iconst 4, 1) := by decide +kernel
theorem dX11_order_74 : decode cX11_order 74 = .ok (.if_icmp .eq 6, 3) := by decide +kernel
theorem dX11_order_77 : decode cX11_order 77 = .ok (.goto 32, 3) := by decide +kernel
theorem dX11_order_80 : decode cX11_order 80 = .ok (.aload_n 0, 1) := by decide +kernel
theorem dX11_order_81 : decode cX11_order 81 = .ok (.getfield 74, 3) := by decide +kernel
theorem dX11_order_84 : decode cX11_order 84 = .ok (.iload 5, 2) := by decide +kernel
theorem dX11_order_86 : decode cX11_order 86 = .ok (.invokevirtual 245, 3) := by decide +kernel
theorem dX11_order_89 : decode cX11_order 89 = .ok (.lstore 6, 2) := by decide +kernel
theorem dX11_order_91 : decode cX11_order 91 = .ok (.iload_n 2, 1) := by decide +kernel
theorem dX11_order_92 : decode cX11_order 92 = .ok (.iconst (-1), 1) := by decide +kernel
theorem dX11_order_93 : decode cX11_order 93 = .ok (.if_icmp .eq 10, 3) := by decide +kernel
theorem dX11_order_96 : decode cX11_order 96 = .ok (.lload 6, 2) := by decide +kernel
theorem dX11_order_98 : decode cX11_order 98 = .ok (.lload_n 3, 1) := by decide +kernel
theorem dX11_order_99 : decode cX11_order 99 = .ok (.lcmp, 1) := by decide +kernel
theorem dX11_order_100 : decode cX11_order 100 = .ok (.ifCond .ge 9, 3) := by decide +kernel
theorem dX11_order_103 : decode cX11_order 103 = .ok (.iload 5, 2) := by decide +kernel
theorem dX11_order_105 : decode cX11_order 105 = .ok (.istore_n 2, 1) := by decide +kernel
theorem dX11_order_106 : decode cX11_order 106 = .ok (.lload 6, 2) := by decide +kernel
theorem dX11_order_108 : decode cX11_order 108 = .ok (.lstore_n 3, 1) := by decide +kernel
theorem dX11_order_109 : decode cX11_order 109 = .ok (.iinc 5 1, 3) := by decide +kernel
theorem dX11_order_112 : decode cX11_order 112 = .ok (.goto (-52), 3) := by decide +kernel
theorem dX11_order_115 : decode cX11_order 115 = .ok (.iload_n 1, 1) := by decide +kernel
theorem dX11_order_116 : decode cX11_order 116 = .ok (.ifCond .ne 8, 3) := by decide +kernel
theorem dX11_order_119 : decode cX11_order 119 = .ok (.iload_n 2, 1) := by decide +kernel
theorem dX11_order_120 : decode cX11_order 120 = .ok (.i2l, 1) := by decide +kernel
theorem dX11_order_121 : decode cX11_order 121 = .ok (.goto 4, 3) := by decide +kernel
theorem dX11_order_124 : decode cX11_order 124 = .ok (.lload_n 3, 1) := by decide +kernel
theorem dX11_order_125 : decode cX11_order 125 = .ok (.lreturn, 1) := by decide +kernel
theorem dX11_spurts_0 : decode cX11_spurts 0 = .ok (.iload_n 1, 1) := by decide +kernel
theorem dX11_spurts_1 : decode cX11_spurts 1 = .ok (.iconst 1, 1) := by decide +kernel
theorem dX11_spurts_2 : decode cX11_spurts 2 = .ok (.bipush 60, 2) := by decide +kernel
theorem dX11_spurts_4 : decode cX11_spurts 4 = .ok (.invokestatic 99, 3) := by decide +kernel
theorem dX11_spurts_7 : decode cX11_spurts 7 = .ok (.ifCond .eq 21, 3) := by decide +kernel
theorem dX11_spurts_10 : decode cX11_spurts 10 = .ok (.iload_n 2, 1) := by decide +kernel
theorem dX11_spurts_11 : decode cX11_spurts 11 = .ok (.iconst 0, 1) := by decide +kernel
theorem dX11_spurts_12 : decode cX11_spurts 12 = .ok (.iload_n 1, 1) := by decide +kernel
theorem dX11_spurts_13 : decode cX11_spurts 13 = .ok (.invokestatic 99, 3) := by decide +kernel
theorem dX11_spurts_16 : decode cX11_spurts 16 = .ok (.ifCond .eq 12, 3) := by decide +kernel
theorem dX11_spurts_19 : decode cX11_spurts 19 = .ok (.iload_n 3, 1) := by decide +kernel
theorem dX11_spurts_20 : decode cX11_spurts 20 = .ok (.iconst 0, 1) := by decide +kernel
theorem dX11_spurts_21 : decode cX11_spurts 21 = .ok (.iconst 1, 1) := by decide +kernel
theorem dX11_spurts_22 : decode cX11_spurts 22 = .ok (.invokestatic 99, 3) := by decide +kernel
theorem dX11_spurts_25 : decode cX11_spurts 25 = .ok (.ifCond .ne 7, 3) := by decide +kernel
theorem dX11_spurts_28 : decode cX11_spurts 28 = .ok (.ldc2_w 191, 3) := by decide +kernel
theorem dX11_spurts_31 : decode cX11_spurts 31 = .ok (.lreturn, 1) := by decide +kernel
theorem dX11_spurts_32 : decode cX11_spurts 32 = .ok (.iconst (-1), 1) := by decide +kernel
theorem dX11_spurts_33 : decode cX11_spurts 33 = .ok (.istore 4, 2) := by decide +kernel
theorem dX11_spurts_35 : decode cX11_spurts 35 = .ok (.ldc2_w 191, 3) := by decide +kernel
theorem dX11_spurts_38 : decode cX11_spurts 38 = .ok (.lstore 5, 2) := by decide +kernel
theorem dX11_spurts_40 : decode cX11_spurts 40 = .ok (.iconst 0, 1) := by decide +kernel
theorem dX11_spurts_41 : decode cX11_spurts 41 = .ok (.istore 7, 2) := by decide +kernel
theorem dX11_spurts_43 : decode cX11_spurts 43 = .ok (.iload 7, 2) := by decide +kernel
theorem dX11_spurts_45 : decode cX11_spurts 45 = .ok (.iload_n 1, 1) := by decide +kernel
theorem dX11_spurts_46 : decode cX11_spurts 46 = .ok (.iload_n 2, 1) := by decide +kernel
theorem dX11_spurts_47 : decode cX11_spurts 47 = .ok (.isub, 1) := by decide +kernel
theorem dX11_spurts_48 : decode cX11_spurts 48 = .ok (.if_icmp .gt 84, 3) := by decide +kernel
theorem dX11_spurts_51 : decode cX11_spurts 51 = .ok (.aload_n 0, 1) := by decide +kernel
theorem dX11_spurts_52 : decode cX11_spurts 52 = .ok (.getfield 74, 3) := by decide +kernel
theorem dX11_spurts_55 : decode cX11_spurts 55 = .ok (.aload_n 0, 1) := by decide +kernel
theorem dX11_spurts_56 : decode cX11_spurts 56 = .ok (.getfield 52, 3) := by decide +kernel
theorem dX11_spurts_59 : decode cX11_spurts 59 = .ok (.aload_n 0, 1) := by decide +kernel
theorem dX11_spurts_60 : decode cX11_spurts 60 = .ok (.getfield 173, 3) := by decide +kernel
theorem dX11_spurts_63 : decode cX11_spurts 63 = .ok (.aaload, 1) := by decide +kernel
theorem dX11_spurts_64 : decode cX11_spurts 64 = .ok (.invokevirtual 227, 3) := by decide +kernel
theorem dX11_spurts_67 : decode cX11_spurts 67 = .ok (.aload_n 0, 1) := by decide +kernel
theorem dX11_spurts_68 : decode cX11_spurts 68 = .ok (.getfield 74, 3) := by decide +kernel
theorem dX11_spurts_71 : decode cX11_spurts 71 = .ok (.iconst 1, 1) := by decide +kernel
theorem dX11_spurts_72 : decode cX11_spurts 72 = .ok (.iload_n 2, 1) := by decide +kernel
theorem dX11_spurts_73 : decode cX11_spurts 73 = .ok (.invokevirtual 249, 3) := by decide +kernel
theorem dX11_spurts_76 : decode cX11_spurts 76 = .ok (.aload_n 0, 1) := by decide +kernel
theorem dX11_spurts_77 : decode cX11_spurts 77 = .ok (.getfield 74, 3) := by decide +kernel
theorem dX11_spurts_80 : decode cX11_spurts 80 = .ok (.iconst 0, 1) := by decide +kernel
theorem dX11_spurts_81 : decode cX11_spurts 81 = .ok (.iload_n 1, 1) := by decide +kernel
theorem dX11_spurts_82 : decode cX11_spurts 82 = .ok (.iload_n 2, 1) := by decide +kernel
theorem dX11_spurts_83 : decode cX11_spurts 83 = .ok (.isub, 1) := by decide +kernel
theorem dX11_spurts_84 : decode cX11_spurts 84 = .ok (.iload 7, 2) := by decide +kernel
theorem dX11_spurts_86 : decode cX11_spurts 86 = .ok (.isub, 1) := by decide +kernel
theorem dX11_spurts_87 : decode cX11_spurts 87 = .ok (.invokevirtual 249, 3) := by decide +kernel
theorem dX11_spurts_90 : decode cX11_spurts 90 = .ok (.aload_n 0, 1) := by decide +kernel
theorem dX11_spurts_91 : decode cX11_spurts 91 = .ok (.getfield 74, 3) := by decide +kernel
theorem dX11_spurts_94 : decode cX11_spurts 94 = .ok (.iconst 2, 1) := by decide +kernel
theorem dX11_spurts_95 : decode cX11_spurts 95 = .ok (.iload 7, 2) := by decide +kernel
theorem dX11_spurts_97 : decode cX11_spurts 97 = .ok (.invokevirtual 249, 3) := by decide +kernel
theorem dX11_spurts_100 : decode cX11_spurts 100 = .ok (.aload_n 0, 1) := by decide +kernel
theorem dX11_spurts_101 : decode cX11_spurts 101 = .ok (.getfield 74, 3) := by decide +kernel
theorem dX11_spurts_104 : decode cX11_spurts 104 = .ok (.getfield 197, 3) := by decide +kernel
theorem dX11_spurts_107 : decode cX11_spurts 107 = .ok (.lload 5, 2) := by decide +kernel
theorem dX11_spurts_109 : decode cX11_spurts 109 = .ok (.lcmp, 1) := by decide +kernel
theorem dX11_spurts_110 : decode cX11_spurts 110 = .ok (.ifCond .le 16, 3) := by decide +kernel
theorem dX11_spurts_113 : decode cX11_spurts 113 = .ok (.aload_n 0, 1) := by decide +kernel
theorem dX11_spurts_114 : decode cX11_spurts 114 = .ok (.getfield 74, 3) := by decide +kernel
theorem dX11_spurts_117 : decode cX11_spurts 117 = .ok (.getfield 197, 3) := by decide +kernel
theorem dX11_spurts_120 : decode cX11_spurts 120 = .ok (.lstore 5, 2) := by decide +kernel
theorem dX11_spurts_122 : decode cX11_spurts 122 = .ok (.iload 7, 2) := by decide +kernel
theorem dX11_spurts_124 : decode cX11_spurts 124 = .ok (.istore 4, 2) := by decide +kernel
theorem dX11_spurts_126 : decode cX11_spurts 126 = .ok (.iinc 7 1, 3) := by decide +kernel
theorem dX11_spurts_129 : decode cX11_spurts 129 = .ok (.goto (-86), 3) := by decide +kernel
theorem dX11_spurts_132 : decode cX11_spurts 132 = .ok (.iload_n 3, 1) := by decide +kernel
theorem dX11_spurts_133 : decode cX11_spurts 133 = .ok (.ifCond .ne 9, 3) := by decide +kernel
theorem dX11_spurts_136 : decode cX11_spurts 136 = .ok (.iload 4, 2) := by decide +kernel
theorem dX11_spurts_138 : decode cX11_spurts 138 = .ok (.i2l, 1) := by decide +kernel
theorem dX11_spurts_139 : decode cX11_spurts 139 = .ok (.goto 5, 3) := by decide +kernel
theorem dX11_spurts_142 : decode cX11_spurts 142 = .ok (.lload 5, 2) := by decide +kernel
theorem dX11_spurts_144 : decode cX11_spurts 144 = .ok (.lreturn, 1) := by decide +kernel
theorem dX11_piece_0 : decode cX11_piece 0 = .ok (.aload_n 0, 1) := by decide +kernel
theorem dX11_piece_1 : decode cX11_piece 1 = .ok (.getfield 10, 3) := by decide +kernel
theorem dX11_piece_4 : decode cX11_piece 4 = .ok (.iload_n 1, 1) := by decide +kernel
theorem dX11_piece_5 : decode cX11_piece 5 = .ok (.invokevirtual 107, 3) := by decide +kernel
theorem dX11_piece_8 : decode cX11_piece 8 = .ok (.ifCond .eq 48, 3) := by decide +kernel
theorem dX11_piece_11 : decode cX11_piece 11 = .ok (.aload_n 0, 1) := by decide +kernel
theorem dX11_piece_12 : decode cX11_piece 12 = .ok (.getfield 10, 3) := by decide +kernel
theorem dX11_piece_15 : decode cX11_piece 15 = .ok (.iload_n 2, 1) := by decide +kernel
theorem dX11_piece_16 : decode cX11_piece 16 = .ok (.invokevirtual 107, 3) := by decide +kernel
theorem dX11_piece_19 : decode cX11_piece 19 = .ok (.ifCond .eq 37, 3) := by decide +kernel
theorem dX11_piece_22 : decode cX11_piece 22 = .ok (.iload_n 1, 1) := by decide +kernel
theorem dX11_piece_23 : decode cX11_piece 23 = .ok (.iload_n 2, 1) := by decide +kernel
theorem dX11_piece_24 : decode cX11_piece 24 = .ok (.if_icmp .eq 32, 3) := by decide +kernel
theorem dX11_piece_27 : decode cX11_piece 27 = .ok (.iload_n 3, 1) := by decide +kernel
theorem dX11_piece_28 : decode cX11_piece 28 = .ok (.sipush (-9999), 3) := by decide +kernel
theorem dX11_piece_31 : decode cX11_piece 31 = .ok (.sipush 9999, 3) := by decide +kernel
theorem dX11_piece_34 : decode cX11_piece 34 = .ok (.invokestatic 99, 3) := by decide +kernel
theorem dX11_piece_37 : decode cX11_piece 37 = .ok (.ifCond .eq 19, 3) := by decide +kernel
theorem dX11_piece_40 : decode cX11_piece 40 = .ok (.iload 4, 2) := by decide +kernel
theorem dX11_piece_42 : decode cX11_piece 42 = .ok (.iconst 0, 1) := by decide +kernel
theorem dX11_piece_43 : decode cX11_piece 43 = .ok (.sipush 999, 3) := by decide +kernel
theorem dX11_piece_46 : decode cX11_piece 46 = .ok (.invokestatic 99, 3) := by decide +kernel
theorem dX11_piece_49 : decode cX11_piece 49 = .ok (.ifCond .eq 7, 3) := by decide +kernel
theorem dX11_piece_52 : decode cX11_piece 52 = .ok (.iconst 1, 1) := by decide +kernel
theorem dX11_piece_53 : decode cX11_piece 53 = .ok (.goto 4, 3) := by decide +kernel
theorem dX11_piece_56 : decode cX11_piece 56 = .ok (.iconst 0, 1) := by decide +kernel
theorem dX11_piece_57 : decode cX11_piece 57 = .ok (.istore 5, 2) := by decide +kernel
theorem dX11_piece_59 : decode cX11_piece 59 = .ok (.iload 5, 2) := by decide +kernel
theorem dX11_piece_61 : decode cX11_piece 61 = .ok (.ifCond .ne 6, 3) := by decide +kernel
theorem dX11_piece_64 : decode cX11_piece 64 = .ok (.bipush (-2), 2) := by decide +kernel
theorem dX11_piece_66 : decode cX11_piece 66 = .ok (.ireturn, 1) := by decide +kernel
theorem dX11_piece_67 : decode cX11_piece 67 = .ok (.aload_n 0, 1) := by decide +kernel
theorem dX11_piece_68 : decode cX11_piece 68 = .ok (.getfield 81, 3) := by decide +kernel
theorem dX11_piece_71 : decode cX11_piece 71 = .ok (.iload_n 1, 1) := by decide +kernel
theorem dX11_piece_72 : decode cX11_piece 72 = .ok (.iload_n 2, 1) := by decide +kernel
theorem dX11_piece_73 : decode cX11_piece 73 = .ok (.iload_n 3, 1) := by decide +kernel
theorem dX11_piece_74 : decode cX11_piece 74 = .ok (.iload 4, 2) := by decide +kernel
theorem dX11_piece_76 : decode cX11_piece 76 = .ok (.invokevirtual 253, 3) := by decide +kernel
theorem dX11_piece_79 : decode cX11_piece 79 = .ok (.ireturn, 1) := by decide +kernel
theorem dX11_worth_0 : decode cX11_worth 0 = .ok (.aload_n 0, 1) := by decide +kernel
theorem dX11_worth_1 : decode cX11_worth 1 = .ok (.getfield 10, 3) := by decide +kernel
theorem dX11_worth_4 : decode cX11_worth 4 = .ok (.iload_n 1, 1) := by decide +kernel
theorem dX11_worth_5 : decode cX11_worth 5 = .ok (.invokevirtual 107, 3) := by decide +kernel
theorem dX11_worth_8 : decode cX11_worth 8 = .ok (.ifCond .eq 44, 3) := by decide +kernel
theorem dX11_worth_11 : decode cX11_worth 11 = .ok (.aload_n 0, 1) := by decide +kernel
theorem dX11_worth_12 : decode cX11_worth 12 = .ok (.getfield 10, 3) := by decide +kernel
theorem dX11_worth_15 : decode cX11_worth 15 = .ok (.iload_n 2, 1) := by decide +kernel
theorem dX11_worth_16 : decode cX11_worth 16 = .ok (.invokevirtual 107, 3) := by decide +kernel
theorem dX11_worth_19 : decode cX11_worth 19 = .ok (.ifCond .eq 33, 3) := by decide +kernel
theorem dX11_worth_22 : decode cX11_worth 22 = .ok (.iload_n 1, 1) := by decide +kernel
theorem dX11_worth_23 : decode cX11_worth 23 = .ok (.iload_n 2, 1) := by decide +kernel
theorem dX11_worth_24 : decode cX11_worth 24 = .ok (.if_icmp .eq 28, 3) := by decide +kernel
theorem dX11_worth_27 : decode cX11_worth 27 = .ok (.aload_n 0, 1) := by decide +kernel
theorem dX11_worth_28 : decode cX11_worth 28 = .ok (.getfield 81, 3) := by decide +kernel
theorem dX11_worth_31 : decode cX11_worth 31 = .ok (.iload_n 3, 1) := by decide +kernel
theorem dX11_worth_32 : decode cX11_worth 32 = .ok (.invokevirtual 254, 3) := by decide +kernel
theorem dX11_worth_35 : decode cX11_worth 35 = .ok (.ifCond .eq 17, 3) := by decide +kernel
theorem dX11_worth_38 : decode cX11_worth 38 = .ok (.iload 4, 2) := by decide +kernel
theorem dX11_worth_40 : decode cX11_worth 40 = .ok (.iconst 0, 1) := by decide +kernel
theorem dX11_worth_41 : decode cX11_worth 41 = .ok (.iconst 1, 1) := by decide +kernel
theorem dX11_worth_42 : decode cX11_worth 42 = .ok (.invokestatic 99, 3) := by decide +kernel
theorem dX11_worth_45 : decode cX11_worth 45 = .ok (.ifCond .eq 7, 3) := by decide +kernel
theorem dX11_worth_48 : decode cX11_worth 48 = .ok (.iconst 1, 1) := by decide +kernel
theorem dX11_worth_49 : decode cX11_worth 49 = .ok (.goto 4, 3) := by decide +kernel
theorem dX11_worth_52 : decode cX11_worth 52 = .ok (.iconst 0, 1) := by decide +kernel
theorem dX11_worth_53 : decode cX11_worth 53 = .ok (.istore 5, 2) := by decide +kernel
theorem dX11_worth_55 : decode cX11_worth 55 = .ok (.iload 5, 2) := by decide +kernel
theorem dX11_worth_57 : decode cX11_worth 57 = .ok (.ifCond .ne 7, 3) := by decide +kernel
theorem dX11_worth_60 : decode cX11_worth 60 = .ok (.ldc2_w 191, 3) := by decide +kernel
theorem dX11_worth_63 : decode cX11_worth 63 = .ok (.lreturn, 1) := by decide +kernel
theorem dX11_worth_64 : decode cX11_worth 64 = .ok (.aload_n 0, 1) := by decide +kernel
theorem dX11_worth_65 : decode cX11_worth 65 = .ok (.getfield 81, 3) := by decide +kernel
theorem dX11_worth_68 : decode cX11_worth 68 = .ok (.iload_n 3, 1) := by decide +kernel
theorem dX11_worth_69 : decode cX11_worth 69 = .ok (.invokevirtual 257, 3) := by decide +kernel
theorem dX11_worth_72 : decode cX11_worth 72 = .ok (.ifCond .ne 7, 3) := by decide +kernel
theorem dX11_worth_75 : decode cX11_worth 75 = .ok (.ldc2_w 260, 3) := by decide +kernel
theorem dX11_worth_78 : decode cX11_worth 78 = .ok (.lreturn, 1) := by decide +kernel
theorem dX11_worth_79 : decode cX11_worth 79 = .ok (.iload 4, 2) := by decide +kernel
theorem dX11_worth_81 : decode cX11_worth 81 = .ok (.ifCond .ne 17, 3) := by decide +kernel
theorem dX11_worth_84 : decode cX11_worth 84 = .ok (.aload_n 0, 1) := by decide +kernel
theorem dX11_worth_85 : decode cX11_worth 85 = .ok (.getfield 81, 3) := by decide +kernel
theorem dX11_worth_88 : decode cX11_worth 88 = .ok (.iload_n 2, 1) := by decide +kernel
theorem dX11_worth_89 : decode cX11_worth 89 = .ok (.iload_n 1, 1) := by decide +kernel
theorem dX11_worth_90 : decode cX11_worth 90 = .ok (.invokevirtual 262, 3) := by decide +kernel
theorem dX11_worth_93 : decode cX11_worth 93 = .ok (.ineg, 1) := by decide +kernel
theorem dX11_worth_94 : decode cX11_worth 94 = .ok (.i2l, 1) := by decide +kernel
theorem dX11_worth_95 : decode cX11_worth 95 = .ok (.goto 13, 3) := by decide +kernel
theorem dX11_worth_98 : decode cX11_worth 98 = .ok (.aload_n 0, 1) := by decide +kernel
theorem dX11_worth_99 : decode cX11_worth 99 = .ok (.getfield 81, 3) := by decide +kernel
theorem dX11_worth_102 : decode cX11_worth 102 = .ok (.iload_n 1, 1) := by decide +kernel
theorem dX11_worth_103 : decode cX11_worth 103 = .ok (.iload_n 2, 1) := by decide +kernel
theorem dX11_worth_104 : decode cX11_worth 104 = .ok (.invokevirtual 262, 3) := by decide +kernel
theorem dX11_worth_107 : decode cX11_worth 107 = .ok (.i2l, 1) := by decide +kernel
theorem dX11_worth_108 : decode cX11_worth 108 = .ok (.lreturn, 1) := by decide +kernel
theorem dX11_go_0 : decode cX11_go 0 = .ok (.aload_n 0, 1) := by decide +kernel
theorem dX11_go_1 : decode cX11_go 1 = .ok (.getfield 81, 3) := by decide +kernel
theorem dX11_go_4 : decode cX11_go 4 = .ok (.iload_n 1, 1) := by decide +kernel
theorem dX11_go_5 : decode cX11_go 5 = .ok (.invokevirtual 254, 3) := by decide +kernel
theorem dX11_go_8 : decode cX11_go 8 = .ok (.ifCond .eq 10, 3) := by decide +kernel
theorem dX11_go_11 : decode cX11_go 11 = .ok (.iload_n 1, 1) := by decide +kernel
theorem dX11_go_12 : decode cX11_go 12 = .ok (.sipush 4096, 3) := by decide +kernel
theorem dX11_go_15 : decode cX11_go 15 = .ok (.if_icmp .lt 6, 3) := by decide +kernel
theorem dX11_go_18 : decode cX11_go 18 = .ok (.bipush (-2), 2) := by decide +kernel
theorem dX11_go_20 : decode cX11_go 20 = .ok (.ireturn, 1) := by decide +kernel
theorem dX11_go_21 : decode cX11_go 21 = .ok (.aload_n 0, 1) := by decide +kernel
theorem dX11_go_22 : decode cX11_go 22 = .ok (.getfield 81, 3) := by decide +kernel
theorem dX11_go_25 : decode cX11_go 25 = .ok (.iload_n 1, 1) := by decide +kernel
theorem dX11_go_26 : decode cX11_go 26 = .ok (.invokevirtual 265, 3) := by decide +kernel
theorem dX11_go_29 : decode cX11_go 29 = .ok (.ireturn, 1) := by decide +kernel
theorem dX11_race_0 : decode cX11_race 0 = .ok (.aload_n 0, 1) := by decide +kernel
theorem dX11_race_1 : decode cX11_race 1 = .ok (.getfield 95, 3) := by decide +kernel
theorem dX11_race_4 : decode cX11_race 4 = .ok (.iload_n 1, 1) := by decide +kernel
theorem dX11_race_5 : decode cX11_race 5 = .ok (.invokevirtual 268, 3) := by decide +kernel
theorem dX11_race_8 : decode cX11_race 8 = .ok (.ifCond .ne 6, 3) := by decide +kernel
theorem dX11_race_11 : decode cX11_race 11 = .ok (.bipush (-2), 2) := by decide +kernel
theorem dX11_race_13 : decode cX11_race 13 = .ok (.ireturn, 1) := by decide +kernel
theorem dX11_race_14 : decode cX11_race 14 = .ok (.aload_n 0, 1) := by decide +kernel
theorem dX11_race_15 : decode cX11_race 15 = .ok (.getfield 95, 3) := by decide +kernel
theorem dX11_race_18 : decode cX11_race 18 = .ok (.iload_n 1, 1) := by decide +kernel
theorem dX11_race_19 : decode cX11_race 19 = .ok (.invokevirtual 269, 3) := by decide +kernel
theorem dX11_race_22 : decode cX11_race 22 = .ok (.ifCond .eq 6, 3) := by decide +kernel
theorem dX11_race_25 : decode cX11_race 25 = .ok (.bipush (-11), 2) := by decide +kernel
theorem dX11_race_27 : decode cX11_race 27 = .ok (.ireturn, 1) := by decide +kernel
theorem dX11_race_28 : decode cX11_race 28 = .ok (.aload_n 0, 1) := by decide +kernel
theorem dX11_race_29 : decode cX11_race 29 = .ok (.getfield 95, 3) := by decide +kernel
theorem dX11_race_32 : decode cX11_race 32 = .ok (.getfield 272, 3) := by decide +kernel
theorem dX11_race_35 : decode cX11_race 35 = .ok (.iload_n 1, 1) := by decide +kernel
theorem dX11_race_36 : decode cX11_race 36 = .ok (.iaload, 1) := by decide +kernel
theorem dX11_race_37 : decode cX11_race 37 = .ok (.bipush 6, 2) := by decide +kernel
theorem dX11_race_39 : decode cX11_race 39 = .ok (.if_icmp .eq 6, 3) := by decide +kernel
theorem dX11_race_42 : decode cX11_race 42 = .ok (.bipush (-2), 2) := by decide +kernel
theorem dX11_race_44 : decode cX11_race 44 = .ok (.ireturn, 1) := by decide +kernel
theorem dX11_race_45 : decode cX11_race 45 = .ok (.aload_n 0, 1) := by decide +kernel
theorem dX11_race_46 : decode cX11_race 46 = .ok (.getfield 88, 3) := by decide +kernel
theorem dX11_race_49 : decode cX11_race 49 = .ok (.aload_n 0, 1) := by decide +kernel
theorem dX11_race_50 : decode cX11_race 50 = .ok (.getfield 95, 3) := by decide +kernel
theorem dX11_race_53 : decode cX11_race 53 = .ok (.getfield 273, 3) := by decide +kernel
theorem dX11_race_56 : decode cX11_race 56 = .ok (.iload_n 1, 1) := by decide +kernel
theorem dX11_race_57 : decode cX11_race 57 = .ok (.aaload, 1) := by decide +kernel
theorem dX11_race_58 : decode cX11_race 58 = .ok (.invokevirtual 277, 3) := by decide +kernel
theorem dX11_race_61 : decode cX11_race 61 = .ok (.ireturn, 1) := by decide +kernel
theorem dX11_commonDivisor_0 : decode cX11_commonDivisor 0 = .ok (.iload_n 0, 1) := by decide +kernel
theorem dX11_commonDivisor_1 : decode cX11_commonDivisor 1 = .ok (.istore_n 2, 1) := by decide +kernel
theorem dX11_commonDivisor_2 : decode cX11_commonDivisor 2 = .ok (.iload_n 1, 1) := by decide +kernel
theorem dX11_commonDivisor_3 : decode cX11_commonDivisor 3 = .ok (.istore_n 3, 1) := by decide +kernel
theorem dX11_commonDivisor_4 : decode cX11_commonDivisor 4 = .ok (.iconst 0, 1) := by decide +kernel
theorem dX11_commonDivisor_5 : decode cX11_commonDivisor 5 = .ok (.istore 4, 2) := by decide +kernel
theorem dX11_commonDivisor_7 : decode cX11_commonDivisor 7 = .ok (.iload 4, 2) := by decide +kernel
theorem dX11_commonDivisor_9 : decode cX11_commonDivisor 9 = .ok (.bipush 64, 2) := by decide +kernel
theorem dX11_commonDivisor_11 : decode cX11_commonDivisor 11 = .ok (.if_icmp .ge 23, 3) := by decide +kernel
theorem dX11_commonDivisor_14 : decode cX11_commonDivisor 14 = .ok (.iload_n 3, 1) := by decide +kernel
theorem dX11_commonDivisor_15 : decode cX11_commonDivisor 15 = .ok (.ifCond .eq 19, 3) := by decide +kernel
theorem dX11_commonDivisor_18 : decode cX11_commonDivisor 18 = .ok (.iload_n 2, 1) := by decide +kernel
theorem dX11_commonDivisor_19 : decode cX11_commonDivisor 19 = .ok (.iload_n 3, 1) := by decide +kernel
theorem dX11_commonDivisor_20 : decode cX11_commonDivisor 20 = .ok (.irem, 1) := by decide +kernel
theorem dX11_commonDivisor_21 : decode cX11_commonDivisor 21 = .ok (.istore 5, 2) := by decide +kernel
theorem dX11_commonDivisor_23 : decode cX11_commonDivisor 23 = .ok (.iload_n 3, 1) := by decide +kernel
theorem dX11_commonDivisor_24 : decode cX11_commonDivisor 24 = .ok (.istore_n 2, 1) := by decide +kernel
theorem dX11_commonDivisor_25 : decode cX11_commonDivisor 25 = .ok (.iload 5, 2) := by decide +kernel
theorem dX11_commonDivisor_27 : decode cX11_commonDivisor 27 = .ok (.istore_n 3, 1) := by decide +kernel
theorem dX11_commonDivisor_28 : decode cX11_commonDivisor 28 = .ok (.iinc 4 1, 3) := by decide +kernel
theorem dX11_commonDivisor_31 : decode cX11_commonDivisor 31 = .ok (.goto (-24), 3) := by decide +kernel
theorem dX11_commonDivisor_34 : decode cX11_commonDivisor 34 = .ok (.iload_n 2, 1) := by decide +kernel
theorem dX11_commonDivisor_35 : decode cX11_commonDivisor 35 = .ok (.ireturn, 1) := by decide +kernel
theorem dX11_lanes_0 : decode cX11_lanes 0 = .ok (.iload_n 1, 1) := by decide +kernel
theorem dX11_lanes_1 : decode cX11_lanes 1 = .ok (.invokestatic 280, 3) := by decide +kernel
theorem dX11_lanes_4 : decode cX11_lanes 4 = .ok (.ifCond .eq 24, 3) := by decide +kernel
theorem dX11_lanes_7 : decode cX11_lanes 7 = .ok (.iload_n 2, 1) := by decide +kernel
theorem dX11_lanes_8 : decode cX11_lanes 8 = .ok (.invokestatic 280, 3) := by decide +kernel
theorem dX11_lanes_11 : decode cX11_lanes 11 = .ok (.ifCond .eq 17, 3) := by decide +kernel
theorem dX11_lanes_14 : decode cX11_lanes 14 = .ok (.iload_n 1, 1) := by decide +kernel
theorem dX11_lanes_15 : decode cX11_lanes 15 = .ok (.iload_n 2, 1) := by decide +kernel
theorem dX11_lanes_16 : decode cX11_lanes 16 = .ok (.if_icmp .eq 12, 3) := by decide +kernel
theorem dX11_lanes_19 : decode cX11_lanes 19 = .ok (.iload_n 3, 1) := by decide +kernel
theorem dX11_lanes_20 : decode cX11_lanes 20 = .ok (.iconst 0, 1) := by decide +kernel
theorem dX11_lanes_21 : decode cX11_lanes 21 = .ok (.iconst 1, 1) := by decide +kernel
theorem dX11_lanes_22 : decode cX11_lanes 22 = .ok (.invokestatic 99, 3) := by decide +kernel
theorem dX11_lanes_25 : decode cX11_lanes 25 = .ok (.ifCond .ne 7, 3) := by decide +kernel
theorem dX11_lanes_28 : decode cX11_lanes 28 = .ok (.ldc2_w 191, 3) := by decide +kernel
theorem dX11_lanes_31 : decode cX11_lanes 31 = .ok (.lreturn, 1) := by decide +kernel
theorem dX11_lanes_32 : decode cX11_lanes 32 = .ok (.aload_n 0, 1) := by decide +kernel
theorem dX11_lanes_33 : decode cX11_lanes 33 = .ok (.getfield 88, 3) := by decide +kernel
theorem dX11_lanes_36 : decode cX11_lanes 36 = .ok (.iload_n 1, 1) := by decide +kernel
theorem dX11_lanes_37 : decode cX11_lanes 37 = .ok (.iload_n 2, 1) := by decide +kernel
theorem dX11_lanes_38 : decode cX11_lanes 38 = .ok (.invokevirtual 283, 3) := by decide +kernel
theorem dX11_lanes_41 : decode cX11_lanes 41 = .ok (.istore 4, 2) := by decide +kernel
theorem dX11_lanes_43 : decode cX11_lanes 43 = .ok (.aload_n 0, 1) := by decide +kernel
theorem dX11_lanes_44 : decode cX11_lanes 44 = .ok (.getfield 88, 3) := by decide +kernel
theorem dX11_lanes_47 : decode cX11_lanes 47 = .ok (.iload_n 1, 1) := by decide +kernel
theorem dX11_lanes_48 : decode cX11_lanes 48 = .ok (.iload_n 2, 1) := by decide +kernel
theorem dX11_lanes_49 : decode cX11_lanes 49 = .ok (.invokevirtual 286, 3) := by decide +kernel
theorem dX11_lanes_52 : decode cX11_lanes 52 = .ok (.istore 5, 2) := by decide +kernel
theorem dX11_lanes_54 : decode cX11_lanes 54 = .ok (.iload 4, 2) := by decide +kernel
theorem dX11_lanes_56 : decode cX11_lanes 56 = .ok (.invokestatic 289, 3) := by decide +kernel
theorem dX11_lanes_59 : decode cX11_lanes 59 = .ok (.iload 5, 2) := by decide +kernel
theorem dX11_lanes_61 : decode cX11_lanes 61 = .ok (.invokestatic 291, 3) := by decide +kernel
theorem dX11_lanes_64 : decode cX11_lanes 64 = .ok (.istore 6, 2) := by decide +kernel
theorem dX11_lanes_66 : decode cX11_lanes 66 = .ok (.iload 6, 2) := by decide +kernel
theorem dX11_lanes_68 : decode cX11_lanes 68 = .ok (.ifCond .ne 13, 3) := by decide +kernel
theorem dX11_lanes_71 : decode cX11_lanes 71 = .ok (.iload_n 3, 1) := by decide +kernel
theorem dX11_lanes_72 : decode cX11_lanes 72 = .ok (.ifCond .ne 7, 3) := by decide +kernel
theorem dX11_lanes_75 : decode cX11_lanes 75 = .ok (.lconst 0, 1) := by decide +kernel
theorem dX11_lanes_76 : decode cX11_lanes 76 = .ok (.goto 4, 3) := by decide +kernel
theorem dX11_lanes_79 : decode cX11_lanes 79 = .ok (.lconst 1, 1) := by decide +kernel
theorem dX11_lanes_80 : decode cX11_lanes 80 = .ok (.lreturn, 1) := by decide +kernel
theorem dX11_lanes_81 : decode cX11_lanes 81 = .ok (.iload_n 3, 1) := by decide +kernel
theorem dX11_lanes_82 : decode cX11_lanes 82 = .ok (.ifCond .ne 12, 3) := by decide +kernel
theorem dX11_lanes_85 : decode cX11_lanes 85 = .ok (.iload 4, 2) := by decide +kernel
theorem dX11_lanes_87 : decode cX11_lanes 87 = .ok (.iload 6, 2) := by decide +kernel
theorem dX11_lanes_89 : decode cX11_lanes 89 = .ok (.idiv, 1) := by decide +kernel
theorem dX11_lanes_90 : decode cX11_lanes 90 = .ok (.i2l, 1) := by decide +kernel
theorem dX11_lanes_91 : decode cX11_lanes 91 = .ok (.goto 9, 3) := by decide +kernel
theorem dX11_lanes_94 : decode cX11_lanes 94 = .ok (.iload 5, 2) := by decide +kernel
theorem dX11_lanes_96 : decode cX11_lanes 96 = .ok (.iload 6, 2) := by decide +kernel
theorem dX11_lanes_98 : decode cX11_lanes 98 = .ok (.idiv, 1) := by decide +kernel
theorem dX11_lanes_99 : decode cX11_lanes 99 = .ok (.i2l, 1) := by decide +kernel
theorem dX11_lanes_100 : decode cX11_lanes 100 = .ok (.lreturn, 1) := by decide +kernel
theorem dX11_fair_0 : decode cX11_fair 0 = .ok (.iconst 0, 1) := by decide +kernel
theorem dX11_fair_1 : decode cX11_fair 1 = .ok (.istore_n 1, 1) := by decide +kernel
theorem dX11_fair_2 : decode cX11_fair 2 = .ok (.iconst 0, 1) := by decide +kernel
theorem dX11_fair_3 : decode cX11_fair 3 = .ok (.istore_n 2, 1) := by decide +kernel
theorem dX11_fair_4 : decode cX11_fair 4 = .ok (.iload_n 2, 1) := by decide +kernel
theorem dX11_fair_5 : decode cX11_fair 5 = .ok (.bipush 6, 2) := by decide +kernel
theorem dX11_fair_7 : decode cX11_fair 7 = .ok (.if_icmp .ge 26, 3) := by decide +kernel
theorem dX11_fair_10 : decode cX11_fair 10 = .ok (.aload_n 0, 1) := by decide +kernel
theorem dX11_fair_11 : decode cX11_fair 11 = .ok (.getfield 88, 3) := by decide +kernel
theorem dX11_fair_14 : decode cX11_fair 14 = .ok (.iload_n 2, 1) := by decide +kernel
theorem dX11_fair_15 : decode cX11_fair 15 = .ok (.invokevirtual 294, 3) := by decide +kernel
theorem dX11_fair_18 : decode cX11_fair 18 = .ok (.ifCond .eq 9, 3) := by decide +kernel
theorem dX11_fair_21 : decode cX11_fair 21 = .ok (.iload_n 1, 1) := by decide +kernel
theorem dX11_fair_22 : decode cX11_fair 22 = .ok (.iconst 1, 1) := by decide +kernel
theorem dX11_fair_23 : decode cX11_fair 23 = .ok (.iload_n 2, 1) := by decide +kernel
theorem dX11_fair_24 : decode cX11_fair 24 = .ok (.ishl, 1) := by decide +kernel
theorem dX11_fair_25 : decode cX11_fair 25 = .ok (.ior, 1) := by decide +kernel
theorem dX11_fair_26 : decode cX11_fair 26 = .ok (.istore_n 1, 1) := by decide +kernel
theorem dX11_fair_27 : decode cX11_fair 27 = .ok (.iinc 2 1, 3) := by decide +kernel
theorem dX11_fair_30 : decode cX11_fair 30 = .ok (.goto (-26), 3) := by decide +kernel
theorem dX11_fair_33 : decode cX11_fair 33 = .ok (.iload_n 1, 1) := by decide +kernel
theorem dX11_fair_34 : decode cX11_fair 34 = .ok (.ireturn, 1) := by decide +kernel
theorem dX11_image_0 : decode cX11_image 0 = .ok (.aload_n 0, 1) := by decide +kernel
theorem dX11_image_1 : decode cX11_image 1 = .ok (.getfield 23, 3) := by decide +kernel
theorem dX11_image_4 : decode cX11_image 4 = .ok (.aload_n 0, 1) := by decide +kernel
theorem dX11_image_5 : decode cX11_image 5 = .ok (.getfield 19, 3) := by decide +kernel
theorem dX11_image_8 : decode cX11_image 8 = .ok (.invokevirtual 297, 3) := by decide +kernel
theorem dX11_image_11 : decode cX11_image 11 = .ok (.aload_n 0, 1) := by decide +kernel
theorem dX11_image_12 : decode cX11_image 12 = .ok (.getfield 10, 3) := by decide +kernel
theorem dX11_image_15 : decode cX11_image 15 = .ok (.getfield 117, 3) := by decide +kernel
theorem dX11_image_18 : decode cX11_image 18 = .ok (.iconst 0, 1) := by decide +kernel
theorem dX11_image_19 : decode cX11_image 19 = .ok (.aload_n 0, 1) := by decide +kernel
theorem dX11_image_20 : decode cX11_image 20 = .ok (.getfield 26, 3) := by decide +kernel
theorem dX11_image_23 : decode cX11_image 23 = .ok (.iconst 0, 1) := by decide +kernel
theorem dX11_image_24 : decode cX11_image 24 = .ok (.bipush 16, 2) := by decide +kernel
theorem dX11_image_26 : decode cX11_image 26 = .ok (.invokestatic 214, 3) := by decide +kernel
theorem dX11_image_29 : decode cX11_image 29 = .ok (.aload_n 0, 1) := by decide +kernel
theorem dX11_image_30 : decode cX11_image 30 = .ok (.aload_n 0, 1) := by decide +kernel
theorem dX11_image_31 : decode cX11_image 31 = .ok (.getfield 10, 3) := by decide +kernel
theorem dX11_image_34 : decode cX11_image 34 = .ok (.getfield 301, 3) := by decide +kernel
theorem dX11_image_37 : decode cX11_image 37 = .ok (.putfield 30, 3) := by decide +kernel
theorem dX11_image_40 : decode cX11_image 40 = .ok (.aload_n 0, 1) := by decide +kernel
theorem dX11_image_41 : decode cX11_image 41 = .ok (.aload_n 0, 1) := by decide +kernel
theorem dX11_image_42 : decode cX11_image 42 = .ok (.getfield 173, 3) := by decide +kernel
theorem dX11_image_45 : decode cX11_image 45 = .ok (.putfield 302, 3) := by decide +kernel
theorem dX11_image_48 : decode cX11_image 48 = .ok (.aload_n 0, 1) := by decide +kernel
theorem dX11_image_49 : decode cX11_image 49 = .ok (.getfield 19, 3) := by decide +kernel
theorem dX11_image_52 : decode cX11_image 52 = .ok (.invokevirtual 305, 3) := by decide +kernel
theorem dX11_image_55 : decode cX11_image 55 = .ok (.ireturn, 1) := by decide +kernel
theorem dX11_back_0 : decode cX11_back 0 = .ok (.aload_n 0, 1) := by decide +kernel
theorem dX11_back_1 : decode cX11_back 1 = .ok (.getfield 30, 3) := by decide +kernel
theorem dX11_back_4 : decode cX11_back 4 = .ok (.iconst (-1), 1) := by decide +kernel
theorem dX11_back_5 : decode cX11_back 5 = .ok (.if_icmp .ne 6, 3) := by decide +kernel
theorem dX11_back_8 : decode cX11_back 8 = .ok (.bipush (-3), 2) := by decide +kernel
theorem dX11_back_10 : decode cX11_back 10 = .ok (.ireturn, 1) := by decide +kernel
theorem dX11_back_11 : decode cX11_back 11 = .ok (.aload_n 0, 1) := by decide +kernel
theorem dX11_back_12 : decode cX11_back 12 = .ok (.getfield 19, 3) := by decide +kernel
theorem dX11_back_15 : decode cX11_back 15 = .ok (.aload_n 0, 1) := by decide +kernel
theorem dX11_back_16 : decode cX11_back 16 = .ok (.getfield 23, 3) := by decide +kernel
theorem dX11_back_19 : decode cX11_back 19 = .ok (.invokevirtual 297, 3) := by decide +kernel
theorem dX11_back_22 : decode cX11_back 22 = .ok (.aload_n 0, 1) := by decide +kernel
theorem dX11_back_23 : decode cX11_back 23 = .ok (.getfield 26, 3) := by decide +kernel
theorem dX11_back_26 : decode cX11_back 26 = .ok (.iconst 0, 1) := by decide +kernel
theorem dX11_back_27 : decode cX11_back 27 = .ok (.aload_n 0, 1) := by decide +kernel
theorem dX11_back_28 : decode cX11_back 28 = .ok (.getfield 10, 3) := by decide +kernel
theorem dX11_back_31 : decode cX11_back 31 = .ok (.getfield 117, 3) := by decide +kernel
theorem dX11_back_34 : decode cX11_back 34 = .ok (.iconst 0, 1) := by decide +kernel
theorem dX11_back_35 : decode cX11_back 35 = .ok (.aload_n 0, 1) := by decide +kernel
theorem dX11_back_36 : decode cX11_back 36 = .ok (.getfield 30, 3) := by decide +kernel
theorem dX11_back_39 : decode cX11_back 39 = .ok (.invokestatic 214, 3) := by decide +kernel
theorem dX11_back_42 : decode cX11_back 42 = .ok (.aload_n 0, 1) := by decide +kernel
theorem dX11_back_43 : decode cX11_back 43 = .ok (.aload_n 0, 1) := by decide +kernel
theorem dX11_back_44 : decode cX11_back 44 = .ok (.getfield 302, 3) := by decide +kernel
theorem dX11_back_47 : decode cX11_back 47 = .ok (.putfield 173, 3) := by decide +kernel
theorem dX11_back_50 : decode cX11_back 50 = .ok (.aload_n 0, 1) := by decide +kernel
theorem dX11_back_51 : decode cX11_back 51 = .ok (.getfield 19, 3) := by decide +kernel
theorem dX11_back_54 : decode cX11_back 54 = .ok (.invokevirtual 305, 3) := by decide +kernel
theorem dX11_back_57 : decode cX11_back 57 = .ok (.ireturn, 1) := by decide +kernel
theorem dX11_count_0 : decode cX11_count 0 = .ok (.iload_n 1, 1) := by decide +kernel
theorem dX11_count_1 : decode cX11_count 1 = .ok (.tableswitch 121 0 8 #[51, 59, 67, 75, 80, 88, 93, 101, 109], 51) := by decide +kernel
theorem dX11_count_52 : decode cX11_count 52 = .ok (.aload_n 0, 1) := by decide +kernel
theorem dX11_count_53 : decode cX11_count 53 = .ok (.getfield 10, 3) := by decide +kernel
theorem dX11_count_56 : decode cX11_count 56 = .ok (.getfield 301, 3) := by decide +kernel
theorem dX11_count_59 : decode cX11_count 59 = .ok (.ireturn, 1) := by decide +kernel
theorem dX11_count_60 : decode cX11_count 60 = .ok (.aload_n 0, 1) := by decide +kernel
theorem dX11_count_61 : decode cX11_count 61 = .ok (.getfield 19, 3) := by decide +kernel
theorem dX11_count_64 : decode cX11_count 64 = .ok (.invokevirtual 305, 3) := by decide +kernel
theorem dX11_count_67 : decode cX11_count 67 = .ok (.ireturn, 1) := by decide +kernel
theorem dX11_count_68 : decode cX11_count 68 = .ok (.aload_n 0, 1) := by decide +kernel
theorem dX11_count_69 : decode cX11_count 69 = .ok (.getfield 65, 3) := by decide +kernel
theorem dX11_count_72 : decode cX11_count 72 = .ok (.getfield 183, 3) := by decide +kernel
theorem dX11_count_75 : decode cX11_count 75 = .ok (.ireturn, 1) := by decide +kernel
theorem dX11_count_76 : decode cX11_count 76 = .ok (.aload_n 0, 1) := by decide +kernel
theorem dX11_count_77 : decode cX11_count 77 = .ok (.getfield 59, 3) := by decide +kernel
theorem dX11_count_80 : decode cX11_count 80 = .ok (.ireturn, 1) := by decide +kernel
theorem dX11_count_81 : decode cX11_count 81 = .ok (.aload_n 0, 1) := by decide +kernel
theorem dX11_count_82 : decode cX11_count 82 = .ok (.getfield 37, 3) := by decide +kernel
theorem dX11_count_85 : decode cX11_count 85 = .ok (.getfield 166, 3) := by decide +kernel
theorem dX11_count_88 : decode cX11_count 88 = .ok (.ireturn, 1) := by decide +kernel
theorem dX11_count_89 : decode cX11_count 89 = .ok (.aload_n 0, 1) := by decide +kernel
theorem dX11_count_90 : decode cX11_count 90 = .ok (.getfield 173, 3) := by decide +kernel
theorem dX11_count_93 : decode cX11_count 93 = .ok (.ireturn, 1) := by decide +kernel
theorem dX11_count_94 : decode cX11_count 94 = .ok (.aload_n 0, 1) := by decide +kernel
theorem dX11_count_95 : decode cX11_count 95 = .ok (.getfield 81, 3) := by decide +kernel
theorem dX11_count_98 : decode cX11_count 98 = .ok (.getfield 308, 3) := by decide +kernel
theorem dX11_count_101 : decode cX11_count 101 = .ok (.ireturn, 1) := by decide +kernel
theorem dX11_count_102 : decode cX11_count 102 = .ok (.aload_n 0, 1) := by decide +kernel
theorem dX11_count_103 : decode cX11_count 103 = .ok (.getfield 88, 3) := by decide +kernel
theorem dX11_count_106 : decode cX11_count 106 = .ok (.getfield 309, 3) := by decide +kernel
theorem dX11_count_109 : decode cX11_count 109 = .ok (.ireturn, 1) := by decide +kernel
theorem dX11_count_110 : decode cX11_count 110 = .ok (.aload_n 0, 1) := by decide +kernel
theorem dX11_count_111 : decode cX11_count 111 = .ok (.getfield 19, 3) := by decide +kernel
theorem dX11_count_114 : decode cX11_count 114 = .ok (.aload_n 0, 1) := by decide +kernel
theorem dX11_count_115 : decode cX11_count 115 = .ok (.getfield 10, 3) := by decide +kernel
theorem dX11_count_118 : decode cX11_count 118 = .ok (.invokevirtual 310, 3) := by decide +kernel
theorem dX11_count_121 : decode cX11_count 121 = .ok (.ireturn, 1) := by decide +kernel
theorem dX11_count_122 : decode cX11_count 122 = .ok (.bipush (-2), 2) := by decide +kernel
theorem dX11_count_124 : decode cX11_count 124 = .ok (.ireturn, 1) := by decide +kernel
theorem dX11_sheet_0 : decode cX11_sheet 0 = .ok (.aload_n 0, 1) := by decide +kernel
theorem dX11_sheet_1 : decode cX11_sheet 1 = .ok (.getfield 95, 3) := by decide +kernel
theorem dX11_sheet_4 : decode cX11_sheet 4 = .ok (.iload_n 1, 1) := by decide +kernel
theorem dX11_sheet_5 : decode cX11_sheet 5 = .ok (.invokevirtual 268, 3) := by decide +kernel
theorem dX11_sheet_8 : decode cX11_sheet 8 = .ok (.ifCond .eq 15, 3) := by decide +kernel
theorem dX11_sheet_11 : decode cX11_sheet 11 = .ok (.iload_n 2, 1) := by decide +kernel
theorem dX11_sheet_12 : decode cX11_sheet 12 = .ok (.iconst (-1), 1) := by decide +kernel
theorem dX11_sheet_13 : decode cX11_sheet 13 = .ok (.if_icmp .eq 13, 3) := by decide +kernel
theorem dX11_sheet_16 : decode cX11_sheet 16 = .ok (.iload_n 2, 1) := by decide +kernel
theorem dX11_sheet_17 : decode cX11_sheet 17 = .ok (.invokestatic 314, 3) := by decide +kernel
theorem dX11_sheet_20 : decode cX11_sheet 20 = .ok (.ifCond .ne 6, 3) := by decide +kernel
theorem dX11_sheet_23 : decode cX11_sheet 23 = .ok (.bipush (-2), 2) := by decide +kernel
theorem dX11_sheet_25 : decode cX11_sheet 25 = .ok (.ireturn, 1) := by decide +kernel
theorem dX11_sheet_26 : decode cX11_sheet 26 = .ok (.iload_n 2, 1) := by decide +kernel
theorem dX11_sheet_27 : decode cX11_sheet 27 = .ok (.iconst (-1), 1) := by decide +kernel
theorem dX11_sheet_28 : decode cX11_sheet 28 = .ok (.if_icmp .ne 15, 3) := by decide +kernel
theorem dX11_sheet_31 : decode cX11_sheet 31 = .ok (.aload_n 0, 1) := by decide +kernel
theorem dX11_sheet_32 : decode cX11_sheet 32 = .ok (.getfield 95, 3) := by decide +kernel
theorem dX11_sheet_35 : decode cX11_sheet 35 = .ok (.getfield 317, 3) := by decide +kernel
theorem dX11_sheet_38 : decode cX11_sheet 38 = .ok (.iload_n 1, 1) := by decide +kernel
theorem dX11_sheet_39 : decode cX11_sheet 39 = .ok (.iconst (-1), 1) := by decide +kernel
theorem dX11_sheet_40 : decode cX11_sheet 40 = .ok (.iastore, 1) := by decide +kernel
theorem dX11_sheet_41 : decode cX11_sheet 41 = .ok (.iconst 1, 1) := by decide +kernel
theorem dX11_sheet_42 : decode cX11_sheet 42 = .ok (.ireturn, 1) := by decide +kernel
theorem dX11_sheet_43 : decode cX11_sheet 43 = .ok (.iload_n 3, 1) := by decide +kernel
theorem dX11_sheet_44 : decode cX11_sheet 44 = .ok (.bipush 40, 2) := by decide +kernel
theorem dX11_sheet_46 : decode cX11_sheet 46 = .ok (.if_icmp .le 6, 3) := by decide +kernel
theorem dX11_sheet_49 : decode cX11_sheet 49 = .ok (.bipush (-2), 2) := by decide +kernel
theorem dX11_sheet_51 : decode cX11_sheet 51 = .ok (.ireturn, 1) := by decide +kernel
theorem dX11_sheet_52 : decode cX11_sheet 52 = .ok (.iload_n 3, 1) := by decide +kernel
theorem dX11_sheet_53 : decode cX11_sheet 53 = .ok (.ifCond .ge 6, 3) := by decide +kernel
theorem dX11_sheet_56 : decode cX11_sheet 56 = .ok (.bipush (-14), 2) := by decide +kernel
theorem dX11_sheet_58 : decode cX11_sheet 58 = .ok (.ireturn, 1) := by decide +kernel
theorem dX11_sheet_59 : decode cX11_sheet 59 = .ok (.aload_n 0, 1) := by decide +kernel
theorem dX11_sheet_60 : decode cX11_sheet 60 = .ok (.getfield 95, 3) := by decide +kernel
theorem dX11_sheet_63 : decode cX11_sheet 63 = .ok (.iload_n 1, 1) := by decide +kernel
theorem dX11_sheet_64 : decode cX11_sheet 64 = .ok (.iload_n 2, 1) := by decide +kernel
theorem dX11_sheet_65 : decode cX11_sheet 65 = .ok (.iload_n 3, 1) := by decide +kernel
theorem dX11_sheet_66 : decode cX11_sheet 66 = .ok (.invokevirtual 320, 3) := by decide +kernel
theorem dX11_sheet_69 : decode cX11_sheet 69 = .ok (.iconst 1, 1) := by decide +kernel
theorem dX11_sheet_70 : decode cX11_sheet 70 = .ok (.ireturn, 1) := by decide +kernel
theorem dX11_cell_0 : decode cX11_cell 0 = .ok (.aload_n 0, 1) := by decide +kernel
theorem dX11_cell_1 : decode cX11_cell 1 = .ok (.getfield 95, 3) := by decide +kernel
theorem dX11_cell_4 : decode cX11_cell 4 = .ok (.iload_n 1, 1) := by decide +kernel
theorem dX11_cell_5 : decode cX11_cell 5 = .ok (.invokevirtual 268, 3) := by decide +kernel
theorem dX11_cell_8 : decode cX11_cell 8 = .ok (.ifCond .ne 6, 3) := by decide +kernel
theorem dX11_cell_11 : decode cX11_cell 11 = .ok (.bipush (-2), 2) := by decide +kernel
theorem dX11_cell_13 : decode cX11_cell 13 = .ok (.ireturn, 1) := by decide +kernel
theorem dX11_cell_14 : decode cX11_cell 14 = .ok (.aload_n 0, 1) := by decide +kernel
theorem dX11_cell_15 : decode cX11_cell 15 = .ok (.getfield 95, 3) := by decide +kernel
theorem dX11_cell_18 : decode cX11_cell 18 = .ok (.iload_n 1, 1) := by decide +kernel
theorem dX11_cell_19 : decode cX11_cell 19 = .ok (.invokevirtual 269, 3) := by decide +kernel
theorem dX11_cell_22 : decode cX11_cell 22 = .ok (.ifCond .eq 6, 3) := by decide +kernel
theorem dX11_cell_25 : decode cX11_cell 25 = .ok (.bipush (-11), 2) := by decide +kernel
theorem dX11_cell_27 : decode cX11_cell 27 = .ok (.ireturn, 1) := by decide +kernel
theorem dX11_cell_28 : decode cX11_cell 28 = .ok (.aload_n 0, 1) := by decide +kernel
theorem dX11_cell_29 : decode cX11_cell 29 = .ok (.getfield 95, 3) := by decide +kernel
theorem dX11_cell_32 : decode cX11_cell 32 = .ok (.iload_n 1, 1) := by decide +kernel
theorem dX11_cell_33 : decode cX11_cell 33 = .ok (.iload_n 2, 1) := by decide +kernel
theorem dX11_cell_34 : decode cX11_cell 34 = .ok (.iconst 1, 1) := by decide +kernel
theorem dX11_cell_35 : decode cX11_cell 35 = .ok (.invokevirtual 324, 3) := by decide +kernel
theorem dX11_cell_38 : decode cX11_cell 38 = .ok (.ifCond .ne 6, 3) := by decide +kernel
theorem dX11_cell_41 : decode cX11_cell 41 = .ok (.bipush (-12), 2) := by decide +kernel
theorem dX11_cell_43 : decode cX11_cell 43 = .ok (.ireturn, 1) := by decide +kernel
theorem dX11_cell_44 : decode cX11_cell 44 = .ok (.aload_n 0, 1) := by decide +kernel
theorem dX11_cell_45 : decode cX11_cell 45 = .ok (.getfield 95, 3) := by decide +kernel
theorem dX11_cell_48 : decode cX11_cell 48 = .ok (.iload_n 1, 1) := by decide +kernel
theorem dX11_cell_49 : decode cX11_cell 49 = .ok (.iload_n 2, 1) := by decide +kernel
theorem dX11_cell_50 : decode cX11_cell 50 = .ok (.iload_n 3, 1) := by decide +kernel
theorem dX11_cell_51 : decode cX11_cell 51 = .ok (.invokevirtual 327, 3) := by decide +kernel
theorem dX11_cell_54 : decode cX11_cell 54 = .ok (.iconst 1, 1) := by decide +kernel
theorem dX11_cell_55 : decode cX11_cell 55 = .ok (.ireturn, 1) := by decide +kernel
theorem dX11_copy_0 : decode cX11_copy 0 = .ok (.aload_n 0, 1) := by decide +kernel
theorem dX11_copy_1 : decode cX11_copy 1 = .ok (.getfield 95, 3) := by decide +kernel
theorem dX11_copy_4 : decode cX11_copy 4 = .ok (.iload_n 1, 1) := by decide +kernel
theorem dX11_copy_5 : decode cX11_copy 5 = .ok (.invokevirtual 268, 3) := by decide +kernel
theorem dX11_copy_8 : decode cX11_copy 8 = .ok (.ifCond .eq 14, 3) := by decide +kernel
theorem dX11_copy_11 : decode cX11_copy 11 = .ok (.aload_n 0, 1) := by decide +kernel
theorem dX11_copy_12 : decode cX11_copy 12 = .ok (.getfield 95, 3) := by decide +kernel
theorem dX11_copy_15 : decode cX11_copy 15 = .ok (.iload_n 3, 1) := by decide +kernel
theorem dX11_copy_16 : decode cX11_copy 16 = .ok (.invokevirtual 268, 3) := by decide +kernel
theorem dX11_copy_19 : decode cX11_copy 19 = .ok (.ifCond .ne 6, 3) := by decide +kernel
theorem dX11_copy_22 : decode cX11_copy 22 = .ok (.bipush (-2), 2) := by decide +kernel
theorem dX11_copy_24 : decode cX11_copy 24 = .ok (.ireturn, 1) := by decide +kernel
theorem dX11_copy_25 : decode cX11_copy 25 = .ok (.aload_n 0, 1) := by decide +kernel
theorem dX11_copy_26 : decode cX11_copy 26 = .ok (.getfield 95, 3) := by decide +kernel
theorem dX11_copy_29 : decode cX11_copy 29 = .ok (.iload_n 1, 1) := by decide +kernel
theorem dX11_copy_30 : decode cX11_copy 30 = .ok (.invokevirtual 269, 3) := by decide +kernel
theorem dX11_copy_33 : decode cX11_copy 33 = .ok (.ifCond .ne 14, 3) := by decide +kernel
theorem dX11_copy_36 : decode cX11_copy 36 = .ok (.aload_n 0, 1) := by decide +kernel
theorem dX11_copy_37 : decode cX11_copy 37 = .ok (.getfield 95, 3) := by decide +kernel
theorem dX11_copy_40 : decode cX11_copy 40 = .ok (.iload_n 3, 1) := by decide +kernel
theorem dX11_copy_41 : decode cX11_copy 41 = .ok (.invokevirtual 269, 3) := by decide +kernel
theorem dX11_copy_44 : decode cX11_copy 44 = .ok (.ifCond .eq 6, 3) := by decide +kernel
theorem dX11_copy_47 : decode cX11_copy 47 = .ok (.bipush (-11), 2) := by decide +kernel
theorem dX11_copy_49 : decode cX11_copy 49 = .ok (.ireturn, 1) := by decide +kernel
theorem dX11_copy_50 : decode cX11_copy 50 = .ok (.aload_n 0, 1) := by decide +kernel
theorem dX11_copy_51 : decode cX11_copy 51 = .ok (.getfield 95, 3) := by decide +kernel
theorem dX11_copy_54 : decode cX11_copy 54 = .ok (.getfield 317, 3) := by decide +kernel
theorem dX11_copy_57 : decode cX11_copy 57 = .ok (.iload_n 1, 1) := by decide +kernel
theorem dX11_copy_58 : decode cX11_copy 58 = .ok (.iaload, 1) := by decide +kernel
theorem dX11_copy_59 : decode cX11_copy 59 = .ok (.aload_n 0, 1) := by decide +kernel
theorem dX11_copy_60 : decode cX11_copy 60 = .ok (.getfield 95, 3) := by decide +kernel
theorem dX11_copy_63 : decode cX11_copy 63 = .ok (.getfield 317, 3) := by decide +kernel
theorem dX11_copy_66 : decode cX11_copy 66 = .ok (.iload_n 3, 1) := by decide +kernel
theorem dX11_copy_67 : decode cX11_copy 67 = .ok (.iaload, 1) := by decide +kernel
theorem dX11_copy_68 : decode cX11_copy 68 = .ok (.if_icmp .eq 6, 3) := by decide +kernel
theorem dX11_copy_71 : decode cX11_copy 71 = .ok (.bipush (-13), 2) := by decide +kernel
theorem dX11_copy_73 : decode cX11_copy 73 = .ok (.ireturn, 1) := by decide +kernel
theorem dX11_copy_74 : decode cX11_copy 74 = .ok (.aload_n 0, 1) := by decide +kernel
theorem dX11_copy_75 : decode cX11_copy 75 = .ok (.getfield 95, 3) := by decide +kernel
theorem dX11_copy_78 : decode cX11_copy 78 = .ok (.iload_n 1, 1) := by decide +kernel
theorem dX11_copy_79 : decode cX11_copy 79 = .ok (.iload_n 2, 1) := by decide +kernel
theorem dX11_copy_80 : decode cX11_copy 80 = .ok (.iload 5, 2) := by decide +kernel
theorem dX11_copy_82 : decode cX11_copy 82 = .ok (.invokevirtual 324, 3) := by decide +kernel
theorem dX11_copy_85 : decode cX11_copy 85 = .ok (.ifCond .eq 18, 3) := by decide +kernel
theorem dX11_copy_88 : decode cX11_copy 88 = .ok (.aload_n 0, 1) := by decide +kernel
theorem dX11_copy_89 : decode cX11_copy 89 = .ok (.getfield 95, 3) := by decide +kernel
theorem dX11_copy_92 : decode cX11_copy 92 = .ok (.iload_n 3, 1) := by decide +kernel
theorem dX11_copy_93 : decode cX11_copy 93 = .ok (.iload 4, 2) := by decide +kernel
theorem dX11_copy_95 : decode cX11_copy 95 = .ok (.iload 5, 2) := by decide +kernel
theorem dX11_copy_97 : decode cX11_copy 97 = .ok (.invokevirtual 324, 3) := by decide +kernel
theorem dX11_copy_100 : decode cX11_copy 100 = .ok (.ifCond .ne 6, 3) := by decide +kernel
theorem dX11_copy_103 : decode cX11_copy 103 = .ok (.bipush (-12), 2) := by decide +kernel
theorem dX11_copy_105 : decode cX11_copy 105 = .ok (.ireturn, 1) := by decide +kernel
theorem dX11_copy_106 : decode cX11_copy 106 = .ok (.aload_n 0, 1) := by decide +kernel
theorem dX11_copy_107 : decode cX11_copy 107 = .ok (.getfield 95, 3) := by decide +kernel
theorem dX11_copy_110 : decode cX11_copy 110 = .ok (.getfield 273, 3) := by decide +kernel
theorem dX11_copy_113 : decode cX11_copy 113 = .ok (.iload_n 1, 1) := by decide +kernel
theorem dX11_copy_114 : decode cX11_copy 114 = .ok (.aaload, 1) := by decide +kernel
theorem dX11_copy_115 : decode cX11_copy 115 = .ok (.iload_n 2, 1) := by decide +kernel
theorem dX11_copy_116 : decode cX11_copy 116 = .ok (.aload_n 0, 1) := by decide +kernel
theorem dX11_copy_117 : decode cX11_copy 117 = .ok (.getfield 95, 3) := by decide +kernel
theorem dX11_copy_120 : decode cX11_copy 120 = .ok (.getfield 273, 3) := by decide +kernel
theorem dX11_copy_123 : decode cX11_copy 123 = .ok (.iload_n 3, 1) := by decide +kernel
theorem dX11_copy_124 : decode cX11_copy 124 = .ok (.aaload, 1) := by decide +kernel
theorem dX11_copy_125 : decode cX11_copy 125 = .ok (.iload 4, 2) := by decide +kernel
theorem dX11_copy_127 : decode cX11_copy 127 = .ok (.iload 5, 2) := by decide +kernel
theorem dX11_copy_129 : decode cX11_copy 129 = .ok (.invokestatic 214, 3) := by decide +kernel
theorem dX11_copy_132 : decode cX11_copy 132 = .ok (.iload 5, 2) := by decide +kernel
theorem dX11_copy_134 : decode cX11_copy 134 = .ok (.ireturn, 1) := by decide +kernel
theorem dX11_pieces_0 : decode cX11_pieces 0 = .ok (.aload_n 0, 1) := by decide +kernel
theorem dX11_pieces_1 : decode cX11_pieces 1 = .ok (.getfield 95, 3) := by decide +kernel
theorem dX11_pieces_4 : decode cX11_pieces 4 = .ok (.iload_n 1, 1) := by decide +kernel
theorem dX11_pieces_5 : decode cX11_pieces 5 = .ok (.invokevirtual 268, 3) := by decide +kernel
theorem dX11_pieces_8 : decode cX11_pieces 8 = .ok (.ifCond .eq 21, 3) := by decide +kernel
theorem dX11_pieces_11 : decode cX11_pieces 11 = .ok (.iload_n 2, 1) := by decide +kernel
theorem dX11_pieces_12 : decode cX11_pieces 12 = .ok (.invokestatic 314, 3) := by decide +kernel
theorem dX11_pieces_15 : decode cX11_pieces 15 = .ok (.ifCond .eq 14, 3) := by decide +kernel
theorem dX11_pieces_18 : decode cX11_pieces 18 = .ok (.iload 4, 2) := by decide +kernel
theorem dX11_pieces_20 : decode cX11_pieces 20 = .ok (.iconst 0, 1) := by decide +kernel
theorem dX11_pieces_21 : decode cX11_pieces 21 = .ok (.bipush 10, 2) := by decide +kernel
theorem dX11_pieces_23 : decode cX11_pieces 23 = .ok (.invokestatic 99, 3) := by decide +kernel
theorem dX11_pieces_26 : decode cX11_pieces 26 = .ok (.ifCond .ne 6, 3) := by decide +kernel
theorem dX11_pieces_29 : decode cX11_pieces 29 = .ok (.bipush (-2), 2) := by decide +kernel
theorem dX11_pieces_31 : decode cX11_pieces 31 = .ok (.ireturn, 1) := by decide +kernel
theorem dX11_pieces_32 : decode cX11_pieces 32 = .ok (.aload_n 0, 1) := by decide +kernel
theorem dX11_pieces_33 : decode cX11_pieces 33 = .ok (.getfield 95, 3) := by decide +kernel
theorem dX11_pieces_36 : decode cX11_pieces 36 = .ok (.iload_n 1, 1) := by decide +kernel
theorem dX11_pieces_37 : decode cX11_pieces 37 = .ok (.invokevirtual 269, 3) := by decide +kernel
theorem dX11_pieces_40 : decode cX11_pieces 40 = .ok (.ifCond .eq 6, 3) := by decide +kernel
theorem dX11_pieces_43 : decode cX11_pieces 43 = .ok (.bipush (-11), 2) := by decide +kernel
theorem dX11_pieces_45 : decode cX11_pieces 45 = .ok (.ireturn, 1) := by decide +kernel
theorem dX11_pieces_46 : decode cX11_pieces 46 = .ok (.aload_n 0, 1) := by decide +kernel
theorem dX11_pieces_47 : decode cX11_pieces 47 = .ok (.getfield 95, 3) := by decide +kernel
theorem dX11_pieces_50 : decode cX11_pieces 50 = .ok (.getfield 317, 3) := by decide +kernel
theorem dX11_pieces_53 : decode cX11_pieces 53 = .ok (.iload_n 1, 1) := by decide +kernel
theorem dX11_pieces_54 : decode cX11_pieces 54 = .ok (.iaload, 1) := by decide +kernel
theorem dX11_pieces_55 : decode cX11_pieces 55 = .ok (.iload_n 2, 1) := by decide +kernel
theorem dX11_pieces_56 : decode cX11_pieces 56 = .ok (.if_icmp .eq 6, 3) := by decide +kernel
theorem dX11_pieces_59 : decode cX11_pieces 59 = .ok (.bipush (-13), 2) := by decide +kernel
theorem dX11_pieces_61 : decode cX11_pieces 61 = .ok (.ireturn, 1) := by decide +kernel
theorem dX11_pieces_62 : decode cX11_pieces 62 = .ok (.aload_n 0, 1) := by decide +kernel
theorem dX11_pieces_63 : decode cX11_pieces 63 = .ok (.getfield 95, 3) := by decide +kernel
theorem dX11_pieces_66 : decode cX11_pieces 66 = .ok (.getfield 273, 3) := by decide +kernel
theorem dX11_pieces_69 : decode cX11_pieces 69 = .ok (.iload_n 1, 1) := by decide +kernel
theorem dX11_pieces_70 : decode cX11_pieces 70 = .ok (.aaload, 1) := by decide +kernel
theorem dX11_pieces_71 : decode cX11_pieces 71 = .ok (.astore 5, 2) := by decide +kernel
theorem dX11_pieces_73 : decode cX11_pieces 73 = .ok (.iload_n 3, 1) := by decide +kernel
theorem dX11_pieces_74 : decode cX11_pieces 74 = .ok (.istore 6, 2) := by decide +kernel
theorem dX11_pieces_76 : decode cX11_pieces 76 = .ok (.iconst 0, 1) := by decide +kernel
theorem dX11_pieces_77 : decode cX11_pieces 77 = .ok (.istore 7, 2) := by decide +kernel
theorem dX11_pieces_79 : decode cX11_pieces 79 = .ok (.iconst 0, 1) := by decide +kernel
theorem dX11_pieces_80 : decode cX11_pieces 80 = .ok (.istore 8, 2) := by decide +kernel
theorem dX11_pieces_82 : decode cX11_pieces 82 = .ok (.iload 8, 2) := by decide +kernel
theorem dX11_pieces_84 : decode cX11_pieces 84 = .ok (.iload 4, 2) := by decide +kernel
theorem dX11_pieces_86 : decode cX11_pieces 86 = .ok (.if_icmp .ge 65, 3) := by decide +kernel
theorem dX11_pieces_89 : decode cX11_pieces 89 = .ok (.aload_n 0, 1) := by decide +kernel
theorem dX11_pieces_90 : decode cX11_pieces 90 = .ok (.getfield 95, 3) := by decide +kernel
theorem dX11_pieces_93 : decode cX11_pieces 93 = .ok (.iload_n 1, 1) := by decide +kernel
theorem dX11_pieces_94 : decode cX11_pieces 94 = .ok (.iload 6, 2) := by decide +kernel
theorem dX11_pieces_96 : decode cX11_pieces 96 = .ok (.iconst 4, 1) := by decide +kernel
theorem dX11_pieces_97 : decode cX11_pieces 97 = .ok (.invokevirtual 324, 3) := by decide +kernel
theorem dX11_pieces_100 : decode cX11_pieces 100 = .ok (.ifCond .ne 6, 3) := by decide +kernel
theorem dX11_pieces_103 : decode cX11_pieces 103 = .ok (.bipush (-12), 2) := by decide +kernel
theorem dX11_pieces_105 : decode cX11_pieces 105 = .ok (.ireturn, 1) := by decide +kernel
theorem dX11_pieces_106 : decode cX11_pieces 106 = .ok (.aload_n 0, 1) := by decide +kernel
theorem dX11_pieces_107 : decode cX11_pieces 107 = .ok (.aload 5, 2) := by decide +kernel
theorem dX11_pieces_109 : decode cX11_pieces 109 = .ok (.iload 6, 2) := by decide +kernel
theorem dX11_pieces_111 : decode cX11_pieces 111 = .ok (.iaload, 1) := by decide +kernel
theorem dX11_pieces_112 : decode cX11_pieces 112 = .ok (.aload 5, 2) := by decide +kernel
theorem dX11_pieces_114 : decode cX11_pieces 114 = .ok (.iload 6, 2) := by decide +kernel
theorem dX11_pieces_116 : decode cX11_pieces 116 = .ok (.iconst 1, 1) := by decide +kernel
theorem dX11_pieces_117 : decode cX11_pieces 117 = .ok (.iadd, 1) := by decide +kernel
theorem dX11_pieces_118 : decode cX11_pieces 118 = .ok (.iaload, 1) := by decide +kernel
theorem dX11_pieces_119 : decode cX11_pieces 119 = .ok (.aload 5, 2) := by decide +kernel
theorem dX11_pieces_121 : decode cX11_pieces 121 = .ok (.iload 6, 2) := by decide +kernel
theorem dX11_pieces_123 : decode cX11_pieces 123 = .ok (.iconst 2, 1) := by decide +kernel
theorem dX11_pieces_124 : decode cX11_pieces 124 = .ok (.iadd, 1) := by decide +kernel
theorem dX11_pieces_125 : decode cX11_pieces 125 = .ok (.iaload, 1) := by decide +kernel
theorem dX11_pieces_126 : decode cX11_pieces 126 = .ok (.aload 5, 2) := by decide +kernel
theorem dX11_pieces_128 : decode cX11_pieces 128 = .ok (.iload 6, 2) := by decide +kernel
theorem dX11_pieces_130 : decode cX11_pieces 130 = .ok (.iconst 3, 1) := by decide +kernel
theorem dX11_pieces_131 : decode cX11_pieces 131 = .ok (.iadd, 1) := by decide +kernel
theorem dX11_pieces_132 : decode cX11_pieces 132 = .ok (.iaload, 1) := by decide +kernel
theorem dX11_pieces_133 : decode cX11_pieces 133 = .ok (.invokevirtual 330, 3) := by decide +kernel
theorem dX11_pieces_136 : decode cX11_pieces 136 = .ok (.ifCond .lt 6, 3) := by decide +kernel
theorem dX11_pieces_139 : decode cX11_pieces 139 = .ok (.iinc 7 1, 3) := by decide +kernel
theorem dX11_pieces_142 : decode cX11_pieces 142 = .ok (.iinc 6 4, 3) := by decide +kernel
theorem dX11_pieces_145 : decode cX11_pieces 145 = .ok (.iinc 8 1, 3) := by decide +kernel
theorem dX11_pieces_148 : decode cX11_pieces 148 = .ok (.goto (-66), 3) := by decide +kernel
theorem dX11_pieces_151 : decode cX11_pieces 151 = .ok (.iload 7, 2) := by decide +kernel
theorem dX11_pieces_153 : decode cX11_pieces 153 = .ok (.ireturn, 1) := by decide +kernel
theorem dX11_taken_0 : decode cX11_taken 0 = .ok (.iload_n 3, 1) := by decide +kernel
theorem dX11_taken_1 : decode cX11_taken 1 = .ok (.invokestatic 146, 3) := by decide +kernel
theorem dX11_taken_4 : decode cX11_taken 4 = .ok (.ifCond .ne 6, 3) := by decide +kernel
theorem dX11_taken_7 : decode cX11_taken 7 = .ok (.bipush (-2), 2) := by decide +kernel
theorem dX11_taken_9 : decode cX11_taken 9 = .ok (.ireturn, 1) := by decide +kernel
theorem dX11_taken_10 : decode cX11_taken 10 = .ok (.aload_n 0, 1) := by decide +kernel
theorem dX11_taken_11 : decode cX11_taken 11 = .ok (.getfield 65, 3) := by decide +kernel
theorem dX11_taken_14 : decode cX11_taken 14 = .ok (.iload_n 1, 1) := by decide +kernel
theorem dX11_taken_15 : decode cX11_taken 15 = .ok (.iload_n 2, 1) := by decide +kernel
theorem dX11_taken_16 : decode cX11_taken 16 = .ok (.invokevirtual 188, 3) := by decide +kernel
theorem dX11_taken_19 : decode cX11_taken 19 = .ok (.istore 4, 2) := by decide +kernel
theorem dX11_taken_21 : decode cX11_taken 21 = .ok (.iload 4, 2) := by decide +kernel
theorem dX11_taken_23 : decode cX11_taken 23 = .ok (.iconst (-1), 1) := by decide +kernel
theorem dX11_taken_24 : decode cX11_taken 24 = .ok (.if_icmp .ne 6, 3) := by decide +kernel
theorem dX11_taken_27 : decode cX11_taken 27 = .ok (.bipush (-11), 2) := by decide +kernel
theorem dX11_taken_29 : decode cX11_taken 29 = .ok (.ireturn, 1) := by decide +kernel
theorem dX11_taken_30 : decode cX11_taken 30 = .ok (.iload 4, 2) := by decide +kernel
theorem dX11_taken_32 : decode cX11_taken 32 = .ok (.iload_n 3, 1) := by decide +kernel
theorem dX11_taken_33 : decode cX11_taken 33 = .ok (.invokestatic 333, 3) := by decide +kernel
theorem dX11_taken_36 : decode cX11_taken 36 = .ok (.ifCond .eq 7, 3) := by decide +kernel
theorem dX11_taken_39 : decode cX11_taken 39 = .ok (.iload_n 2, 1) := by decide +kernel
theorem dX11_taken_40 : decode cX11_taken 40 = .ok (.goto 5, 3) := by decide +kernel
theorem dX11_taken_43 : decode cX11_taken 43 = .ok (.bipush (-13), 2) := by decide +kernel
theorem dX11_taken_45 : decode cX11_taken 45 = .ok (.ireturn, 1) := by decide +kernel
set_option maxHeartbeats 4000000 in
set_option maxRecDepth 100000 in
theorem c_X11_within {l : Launch} {w : Wd} (hW : HWd w shX rX 66) (σ : St) (a1 : Int32) (a2 : Int32) (a3 : Int32)  : ∀ res, f_X11_within a1 a2 a3 = some res → MtI l yX11_within cX11_within 3 .boolean 0 0 w [.int a1, .int a2, .int a3] σ (res, σ) := by
  refine mt_P (by decide) rfl hW (fun X hl0 hC hret => ?_)
  show RF X w (Aw w (xs_ X).heap.size) 3 (fun r => QI X w (r, σ)) (f_X11_within a1 a2 a3) 0 [(0, .int a1), (1, .int a2), (2, .int a3)] [] σ
  unfold f_X11_within
  refine r_iload_n hC dX11_within_0 rfl 0 rfl ?_
  refine r_iload_n hC dX11_within_1 rfl 1 rfl ?_
  refine r_icmp_lt hC 14 dX11_within_2 (by decide) (fun c1 => ?_) (fun c1 => ?_)
  · refine r_iconst (v := 0) hC dX11_within_14 (by decide) ?_
    exact r_iretP hC hret rfl dX11_within_15
  · refine r_iload_n hC dX11_within_5 rfl 0 rfl ?_
    refine r_iload_n hC dX11_within_6 rfl 2 rfl ?_
    refine r_icmp_gt hC 14 dX11_within_7 (by decide) (fun c2 => ?_) (fun c2 => ?_)
    · refine r_iconst (v := 0) hC dX11_within_14 (by decide) ?_
      exact r_iretP hC hret rfl dX11_within_15
    · refine r_iconst (v := 1) hC dX11_within_10 (by decide) ?_
      refine r_goto hC 15 dX11_within_11 (by decide) ?_
      exact r_iretP hC hret rfl dX11_within_15
set_option maxHeartbeats 4000000 in
set_option maxRecDepth 100000 in
theorem c_X11_rower {l : Launch} {w : Wd} (hW : HWd w shX rX 66) (σ : St) (a2 : Int32) (a3 : Int32) (a4 : Int32) (a5 : Int32)  : ∀ res, f_X11_rower σ a2 a3 a4 a5 = some res → MtI l yX11_rower cX11_rower 6 .int 1 24 w [.ref (wA w 0), .int a2, .int a3, .int a4, .int a5] σ res := by
  refine mt_I (by decide) rfl hW (fun X hl0 hC hret => ?_)
  show RF X w (Aw w (xs_ X).heap.size) 6 (QI X w) (f_X11_rower σ a2 a3 a4 a5) 0 [(0, .ref (wA w 0)), (1, .int a2), (2, .int a3), (3, .int a4), (4, .int a5)] [] σ
  unfold f_X11_rower
  refine r_iload_n hC dX11_rower_0 rfl 1 rfl ?_
  refine r_bipush (v := 40) hC dX11_rower_1 (by decide) ?_
  refine r_bipush (v := 120) hC dX11_rower_3 (by decide) ?_
  refine r_callSP hC (st := []) [.int a2, .int 40, .int 120] (c_X11_within hC.w σ a2 40 120) yk_X11_within lm_X11_99 rfl ⟨rfl, rfl⟩ rfl dX11_rower_5 (fun v1 => ?_)
  refine r_jn (T := fun (j3 : Int32 → Option (Int32 × St)) => ∀ (t2 : Int32), RF X w (Aw w (xs_ X).heap.size) 6 (QI X w) (j3 t2) 48 [(0, .ref (wA w 0)), (1, .int a2), (2, .int a3), (3, .int a4), (4, .int a5)] [.int t2] σ) ?_ (fun j3 hj3 => ?_)
  · intro t2
    refine r_istore (lv' := [(5, .int t2), (0, .ref (wA w 0)), (1, .int a2), (2, .int a3), (3, .int a4), (4, .int a5)]) hC dX11_rower_48 (by decide) rfl ?_
    refine r_iload hC dX11_rower_50 0 rfl ?_
    refine r_if_ne hC 58 dX11_rower_52 (by decide) (fun c4 => ?_) (fun c4 => ?_)
    · refine r_aload_n hC dX11_rower_58 rfl 1 rfl ?_
      refine r_getR hC clX11 0 0 1 rfl rfl rfl (hC.n rfl) rfl lf_X11_10 dX11_rower_59 ?_
      refine r_iload_n hC dX11_rower_62 rfl 2 rfl ?_
      refine r_iload_n hC dX11_rower_63 rfl 3 rfl ?_
      refine r_iload_n hC dX11_rower_64 rfl 4 rfl ?_
      refine r_iload hC dX11_rower_65 5 rfl ?_
      refine r_callVI hC (b := 1) (ci := 2) (st := []) [.int a2, .int a3, .int a4, .int a5] rfl (hC.n rfl) rfl rfl (c_X2_add hC.w σ a2 a3 a4 a5) yk_X2_add lm_X11_103 rfl ⟨rfl, rfl⟩ rfl dX11_rower_67 (fun v5 σ6 => ?_)
      exact r_iret hC hret rfl dX11_rower_70
    · refine r_bipush (v := (-2)) hC dX11_rower_55 (by decide) ?_
      exact r_iret hC hret rfl dX11_rower_57
  · refine r_jn (T := fun (j7 : Option (Int32 × St)) => RF X w (Aw w (xs_ X).heap.size) 6 (QI X w) j7 47 [(0, .ref (wA w 0)), (1, .int a2), (2, .int a3), (3, .int a4), (4, .int a5)] [] σ) ?_ (fun j7 hj7 => ?_)
    · refine r_iconst (v := 0) hC dX11_rower_47 (by decide) ?_
      exact r_lv [0, 1, 2, 3, 4] rfl (hj3 0)
    · refine r_if_eq hC 47 dX11_rower_8 (by decide) (fun c8 => ?_) (fun c8 => ?_)
      · exact r_lv [0, 1, 2, 3, 4] rfl hj7
      · refine r_iload_n hC dX11_rower_11 rfl 2 rfl ?_
        refine r_iconst (v := 1) hC dX11_rower_12 (by decide) ?_
        refine r_bipush (v := 99) hC dX11_rower_13 (by decide) ?_
        refine r_callSP hC (st := []) [.int a3, .int 1, .int 99] (c_X11_within hC.w σ a3 1 99) yk_X11_within lm_X11_99 rfl ⟨rfl, rfl⟩ rfl dX11_rower_15 (fun v9 => ?_)
        refine r_if_eq hC 47 dX11_rower_18 (by decide) (fun c10 => ?_) (fun c10 => ?_)
        · exact r_lv [0, 1, 2, 3, 4] rfl hj7
        · refine r_iload_n hC dX11_rower_21 rfl 3 rfl ?_
          refine r_iconst (v := 0) hC dX11_rower_22 (by decide) ?_
          refine r_sipush (v := 9999) hC dX11_rower_23 (by decide) ?_
          refine r_callSP hC (st := []) [.int a4, .int 0, .int 9999] (c_X11_within hC.w σ a4 0 9999) yk_X11_within lm_X11_99 rfl ⟨rfl, rfl⟩ rfl dX11_rower_26 (fun v11 => ?_)
          refine r_if_eq hC 47 dX11_rower_29 (by decide) (fun c12 => ?_) (fun c12 => ?_)
          · exact r_lv [0, 1, 2, 3, 4] rfl hj7
          · refine r_iload hC dX11_rower_32 4 rfl ?_
            refine r_iconst (v := 0) hC dX11_rower_34 (by decide) ?_
            refine r_bipush (v := 99) hC dX11_rower_35 (by decide) ?_
            refine r_callSP hC (st := []) [.int a5, .int 0, .int 99] (c_X11_within hC.w σ a5 0 99) yk_X11_within lm_X11_99 rfl ⟨rfl, rfl⟩ rfl dX11_rower_37 (fun v13 => ?_)
            refine r_if_eq hC 47 dX11_rower_40 (by decide) (fun c14 => ?_) (fun c14 => ?_)
            · exact r_lv [0, 1, 2, 3, 4] rfl hj7
            · refine r_iconst (v := 1) hC dX11_rower_43 (by decide) ?_
              refine r_goto hC 48 dX11_rower_44 (by decide) ?_
              exact r_lv [0, 1, 2, 3, 4] rfl (hj3 1)
set_option maxHeartbeats 4000000 in
set_option maxRecDepth 100000 in
theorem c_X11_rowerTold {l : Launch} {w : Wd} (hW : HWd w shX rX 66) (σ : St) (a2 : Int32) (a3 : Int32)  : ∀ res, f_X11_rowerTold σ a2 a3 = some res → MtI l yX11_rowerTold cX11_rowerTold 3 .int 1 22 w [.ref (wA w 0), .int a2, .int a3] σ (res, σ) := by
  refine mt_P (by decide) rfl hW (fun X hl0 hC hret => ?_)
  show RF X w (Aw w (xs_ X).heap.size) 3 (fun r => QI X w (r, σ)) (f_X11_rowerTold σ a2 a3) 0 [(0, .ref (wA w 0)), (1, .int a2), (2, .int a3)] [] σ
  unfold f_X11_rowerTold
  refine r_aload_n hC dX11_rowerTold_0 rfl 0 rfl ?_
  refine r_getR hC clX11 0 0 1 rfl rfl rfl (hC.n rfl) rfl lf_X11_10 dX11_rowerTold_1 ?_
  refine r_iload_n hC dX11_rowerTold_4 rfl 1 rfl ?_
  refine r_callVP hC (b := 1) (ci := 2) (st := []) [.int a2] rfl (hC.n rfl) rfl rfl (c_X2_has hC.w σ a2) yk_X2_has lm_X11_107 rfl ⟨rfl, rfl⟩ rfl dX11_rowerTold_5 (fun v1 => ?_)
  refine r_if_ne hC 14 dX11_rowerTold_8 (by decide) (fun c2 => ?_) (fun c2 => ?_)
  · refine r_iload_n hC dX11_rowerTold_14 rfl 2 rfl ?_
    refine r_tab1 (off := 33) hC 48 0 dX11_rowerTold_15 (by decide) (by decide) (by decide) (by decide) ?_ (fun c5 => ?_)
    · refine r_aload_n hC dX11_rowerTold_48 rfl 0 rfl ?_
      refine r_getR hC clX11 0 0 1 rfl rfl rfl (hC.n rfl) rfl lf_X11_10 dX11_rowerTold_49 ?_
      refine r_getR hC clX2 1 0 2 rfl rfl rfl (hC.n rfl) rfl lf_X11_111 dX11_rowerTold_52 ?_
      refine r_iload_n hC dX11_rowerTold_55 rfl 1 rfl ?_
      refine r_gd (fun g3 => ?_)
      refine r_iald hC 2 16 rfl rfl g3 dX11_rowerTold_56 ?_
      refine r_nmI (fun v4 => ?_)
      exact r_iretP hC hret rfl dX11_rowerTold_57
    · refine r_tab1 (off := 43) hC 58 1 dX11_rowerTold_15 (by decide) (by decide) (by decide) (by decide) ?_ (fun c8 => ?_)
      · refine r_aload_n hC dX11_rowerTold_58 rfl 0 rfl ?_
        refine r_getR hC clX11 0 0 1 rfl rfl rfl (hC.n rfl) rfl lf_X11_10 dX11_rowerTold_59 ?_
        refine r_getR hC clX2 1 1 3 rfl rfl rfl (hC.n rfl) rfl lf_X11_114 dX11_rowerTold_62 ?_
        refine r_iload_n hC dX11_rowerTold_65 rfl 1 rfl ?_
        refine r_gd (fun g6 => ?_)
        refine r_iald hC 3 16 rfl rfl g6 dX11_rowerTold_66 ?_
        refine r_nmI (fun v7 => ?_)
        exact r_iretP hC hret rfl dX11_rowerTold_67
      · refine r_tab1 (off := 53) hC 68 2 dX11_rowerTold_15 (by decide) (by decide) (by decide) (by decide) ?_ (fun c11 => ?_)
        · refine r_aload_n hC dX11_rowerTold_68 rfl 0 rfl ?_
          refine r_getR hC clX11 0 0 1 rfl rfl rfl (hC.n rfl) rfl lf_X11_10 dX11_rowerTold_69 ?_
          refine r_getR hC clX2 1 2 4 rfl rfl rfl (hC.n rfl) rfl lf_X11_117 dX11_rowerTold_72 ?_
          refine r_iload_n hC dX11_rowerTold_75 rfl 1 rfl ?_
          refine r_gd (fun g9 => ?_)
          refine r_iald hC 4 16 rfl rfl g9 dX11_rowerTold_76 ?_
          refine r_nmI (fun v10 => ?_)
          exact r_iretP hC hret rfl dX11_rowerTold_77
        · refine r_tab1 (off := 63) hC 78 3 dX11_rowerTold_15 (by decide) (by decide) (by decide) (by decide) ?_ (fun c14 => ?_)
          · refine r_aload_n hC dX11_rowerTold_78 rfl 0 rfl ?_
            refine r_getR hC clX11 0 0 1 rfl rfl rfl (hC.n rfl) rfl lf_X11_10 dX11_rowerTold_79 ?_
            refine r_getR hC clX2 1 3 5 rfl rfl rfl (hC.n rfl) rfl lf_X11_120 dX11_rowerTold_82 ?_
            refine r_iload_n hC dX11_rowerTold_85 rfl 1 rfl ?_
            refine r_gd (fun g12 => ?_)
            refine r_iald hC 5 16 rfl rfl g12 dX11_rowerTold_86 ?_
            refine r_nmI (fun v13 => ?_)
            exact r_iretP hC hret rfl dX11_rowerTold_87
          · refine r_tab1 (off := 73) hC 88 4 dX11_rowerTold_15 (by decide) (by decide) (by decide) (by decide) ?_ (fun c16 => ?_)
            · refine r_aload_n hC dX11_rowerTold_88 rfl 0 rfl ?_
              refine r_getR hC clX11 0 1 6 rfl rfl rfl (hC.n rfl) rfl lf_X11_19 dX11_rowerTold_89 ?_
              refine r_iload_n hC dX11_rowerTold_92 rfl 1 rfl ?_
              refine r_callVP hC (b := 6) (ci := 0) (st := []) [.int a2] rfl (hC.n rfl) rfl rfl (c_X0_seatOf hC.w σ a2) yk_X0_seatOf lm_X11_123 rfl ⟨rfl, rfl⟩ rfl dX11_rowerTold_93 (fun v15 => ?_)
              exact r_iretP hC hret rfl dX11_rowerTold_96
            · refine r_tabD hC 97 dX11_rowerTold_15 (by have e0 := ne_toInt (a := 0) (by decide) c5; have e1 := ne_toInt (a := 1) (by decide) c8; have e2 := ne_toInt (a := 2) (by decide) c11; have e3 := ne_toInt (a := 3) (by decide) c14; have e4 := ne_toInt (a := 4) (by decide) c16; omega) (by decide) ?_
              refine r_bipush (v := (-5)) hC dX11_rowerTold_97 (by decide) ?_
              exact r_iretP hC hret rfl dX11_rowerTold_99
  · refine r_bipush (v := (-5)) hC dX11_rowerTold_11 (by decide) ?_
    exact r_iretP hC hret rfl dX11_rowerTold_13
set_option maxHeartbeats 4000000 in
set_option maxRecDepth 100000 in
theorem c_X11_isSeat {l : Launch} {w : Wd} (hW : HWd w shX rX 66) (σ : St) (a1 : Int32)  : ∀ res, f_X11_isSeat a1 = some res → MtI l yX11_isSeat cX11_isSeat 1 .boolean 1 22 w [.int a1] σ (res, σ) := by
  refine mt_P (by decide) rfl hW (fun X hl0 hC hret => ?_)
  show RF X w (Aw w (xs_ X).heap.size) 1 (fun r => QI X w (r, σ)) (f_X11_isSeat a1) 0 [(0, .int a1)] [] σ
  unfold f_X11_isSeat
  refine r_iload_n hC dX11_isSeat_0 rfl 0 rfl ?_
  refine r_iconst (v := 0) hC dX11_isSeat_1 (by decide) ?_
  refine r_bipush (v := 7) hC dX11_isSeat_2 (by decide) ?_
  refine r_callSP hC (st := []) [.int a1, .int 0, .int 7] (c_X11_within hC.w σ a1 0 7) yk_X11_within lm_X11_99 rfl ⟨rfl, rfl⟩ rfl dX11_isSeat_4 (fun v1 => ?_)
  refine r_gd (fun g2 => ?_)
  exact r_iretP hC hret (by rcases g2 with h9 | h9 <;> rw [h9] <;> rfl) dX11_isSeat_7
set_option maxHeartbeats 4000000 in
set_option maxRecDepth 100000 in
theorem c_X11_sit {l : Launch} {w : Wd} (hW : HWd w shX rX 66) (σ : St) (a2 : Int32) (a3 : Int32)  : ∀ res, f_X11_sit σ a2 a3 = some res → MtI l yX11_sit cX11_sit 3 .int 2 46 w [.ref (wA w 0), .int a2, .int a3] σ res := by
  refine mt_I (by decide) rfl hW (fun X hl0 hC hret => ?_)
  show RF X w (Aw w (xs_ X).heap.size) 3 (QI X w) (f_X11_sit σ a2 a3) 0 [(0, .ref (wA w 0)), (1, .int a2), (2, .int a3)] [] σ
  unfold f_X11_sit
  refine r_iload_n hC dX11_sit_0 rfl 1 rfl ?_
  refine r_callSP hC (st := []) [.int a2] (c_X11_isSeat hC.w σ a2) yk_X11_isSeat lm_X11_127 rfl ⟨rfl, rfl⟩ rfl dX11_sit_1 (fun v1 => ?_)
  refine r_if_eq hC 23 dX11_sit_4 (by decide) (fun c2 => ?_) (fun c2 => ?_)
  · refine r_bipush (v := (-5)) hC dX11_sit_23 (by decide) ?_
    exact r_iret hC hret rfl dX11_sit_25
  · refine r_iload_n hC dX11_sit_7 rfl 2 rfl ?_
    refine r_iconst (v := (-1)) hC dX11_sit_8 (by decide) ?_
    refine r_jn (T := fun (j3 : Option (Int32 × St)) => RF X w (Aw w (xs_ X).heap.size) 3 (QI X w) j3 26 [(0, .ref (wA w 0)), (1, .int a2), (2, .int a3)] [] σ) ?_ (fun j3 hj3 => ?_)
    · refine r_aload_n hC dX11_sit_26 rfl 0 rfl ?_
      refine r_getR hC clX11 0 1 6 rfl rfl rfl (hC.n rfl) rfl lf_X11_19 dX11_sit_27 ?_
      refine r_iload_n hC dX11_sit_30 rfl 1 rfl ?_
      refine r_iload_n hC dX11_sit_31 rfl 2 rfl ?_
      refine r_callVI hC (b := 6) (ci := 0) (st := []) [.int a2, .int a3] rfl (hC.n rfl) rfl rfl (c_X0_place hC.w σ a2 a3) yk_X0_place lm_X11_130 rfl ⟨rfl, rfl⟩ rfl dX11_sit_32 (fun v4 σ5 => ?_)
      exact r_iret hC hret rfl dX11_sit_35
    · refine r_icmp_eq hC 26 dX11_sit_9 (by decide) (fun c6 => ?_) (fun c6 => ?_)
      · exact r_lv [0, 1, 2] rfl hj3
      · refine r_aload_n hC dX11_sit_12 rfl 0 rfl ?_
        refine r_getR hC clX11 0 0 1 rfl rfl rfl (hC.n rfl) rfl lf_X11_10 dX11_sit_13 ?_
        refine r_iload_n hC dX11_sit_16 rfl 2 rfl ?_
        refine r_callVP hC (b := 1) (ci := 2) (st := []) [.int a3] rfl (hC.n rfl) rfl rfl (c_X2_has hC.w σ a3) yk_X2_has lm_X11_107 rfl ⟨rfl, rfl⟩ rfl dX11_sit_17 (fun v7 => ?_)
        refine r_if_ne hC 26 dX11_sit_20 (by decide) (fun c8 => ?_) (fun c8 => ?_)
        · exact r_lv [0, 1, 2] rfl hj3
        · refine r_bipush (v := (-5)) hC dX11_sit_23 (by decide) ?_
          exact r_iret hC hret rfl dX11_sit_25
set_option maxHeartbeats 4000000 in
set_option maxRecDepth 100000 in
theorem c_X11_rig {l : Launch} {w : Wd} (hW : HWd w shX rX 66) (σ : St) (a2 : Int32) (a3 : Int32) (a4 : Int32)  : ∀ res, f_X11_rig σ a2 a3 a4 = some res → MtI l yX11_rig cX11_rig 5 .int 2 42 w [.ref (wA w 0), .int a2, .int a3, .int a4] σ res := by
  refine mt_I (by decide) rfl hW (fun X hl0 hC hret => ?_)
  show RF X w (Aw w (xs_ X).heap.size) 5 (QI X w) (f_X11_rig σ a2 a3 a4) 0 [(0, .ref (wA w 0)), (1, .int a2), (2, .int a3), (3, .int a4)] [] σ
  unfold f_X11_rig
  refine r_iload_n hC dX11_rig_0 rfl 1 rfl ?_
  refine r_callSP hC (st := []) [.int a2] (c_X11_isSeat hC.w σ a2) yk_X11_isSeat lm_X11_127 rfl ⟨rfl, rfl⟩ rfl dX11_rig_1 (fun v1 => ?_)
  refine r_if_ne hC 10 dX11_rig_4 (by decide) (fun c2 => ?_) (fun c2 => ?_)
  · refine r_iload_n hC dX11_rig_10 rfl 2 rfl ?_
    refine r_jn (T := fun (j3 : Option (Int32 × St)) => RF X w (Aw w (xs_ X).heap.size) 5 (QI X w) j3 47 [(0, .ref (wA w 0)), (1, .int a2), (2, .int a3), (3, .int a4)] [] σ) ?_ (fun j3 hj3 => ?_)
    · refine r_iload_n hC dX11_rig_47 rfl 2 rfl ?_
      refine r_iconst (v := 1) hC dX11_rig_48 (by decide) ?_
      refine r_icmp_ne hC 86 dX11_rig_49 (by decide) (fun c4 => ?_) (fun c4 => ?_)
      · refine r_bipush (v := (-2)) hC dX11_rig_86 (by decide) ?_
        exact r_iret hC hret rfl dX11_rig_88
      · refine r_iload_n hC dX11_rig_52 rfl 3 rfl ?_
        refine r_iconst (v := 1) hC dX11_rig_53 (by decide) ?_
        refine r_bipush (v := 9) hC dX11_rig_54 (by decide) ?_
        refine r_callSP hC (st := []) [.int a4, .int 1, .int 9] (c_X11_within hC.w σ a4 1 9) yk_X11_within lm_X11_99 rfl ⟨rfl, rfl⟩ rfl dX11_rig_56 (fun v5 => ?_)
        refine r_if_eq hC 86 dX11_rig_59 (by decide) (fun c6 => ?_) (fun c6 => ?_)
        · refine r_bipush (v := (-2)) hC dX11_rig_86 (by decide) ?_
          exact r_iret hC hret rfl dX11_rig_88
        · refine r_aload_n hC dX11_rig_62 rfl 0 rfl ?_
          refine r_getR hC clX11 0 1 6 rfl rfl rfl (hC.n rfl) rfl lf_X11_19 dX11_rig_63 ?_
          refine r_getR hC clX0 6 2 9 rfl rfl rfl (hC.n rfl) rfl lf_X11_137 dX11_rig_66 ?_
          refine r_iload_n hC dX11_rig_69 rfl 1 rfl ?_
          refine r_gd (fun g7 => ?_)
          refine r_iald hC 9 8 rfl rfl g7 dX11_rig_70 ?_
          refine r_nmI (fun v8 => ?_)
          refine r_istore (lv' := [(4, .int v8), (0, .ref (wA w 0)), (1, .int a2), (2, .int a3), (3, .int a4)]) hC dX11_rig_71 (by decide) rfl ?_
          refine r_aload_n hC dX11_rig_73 rfl 1 rfl ?_
          refine r_getR hC clX11 0 1 6 rfl rfl rfl (hC.n rfl) rfl lf_X11_19 dX11_rig_74 ?_
          refine r_getR hC clX0 6 2 9 rfl rfl rfl (hC.n rfl) rfl lf_X11_137 dX11_rig_77 ?_
          refine r_iload_n hC dX11_rig_80 rfl 2 rfl ?_
          refine r_iload_n hC dX11_rig_81 rfl 4 rfl ?_
          refine r_gd (fun g9 => ?_)
          refine r_iast hC 9 8 rfl rfl g9 dX11_rig_82 ?_
          refine r_nmS (fun σ10 => ?_)
          refine r_iload hC dX11_rig_83 0 rfl ?_
          exact r_iret hC hret rfl dX11_rig_85
    · refine r_if_ne hC 47 dX11_rig_11 (by decide) (fun c11 => ?_) (fun c11 => ?_)
      · exact r_lv [0, 1, 2, 3] rfl hj3
      · refine r_iload_n hC dX11_rig_14 rfl 3 rfl ?_
        refine r_iconst (v := 0) hC dX11_rig_15 (by decide) ?_
        refine r_iconst (v := 1) hC dX11_rig_16 (by decide) ?_
        refine r_callSP hC (st := []) [.int a4, .int 0, .int 1] (c_X11_within hC.w σ a4 0 1) yk_X11_within lm_X11_99 rfl ⟨rfl, rfl⟩ rfl dX11_rig_17 (fun v12 => ?_)
        refine r_if_eq hC 47 dX11_rig_20 (by decide) (fun c13 => ?_) (fun c13 => ?_)
        · exact r_lv [0, 1, 2, 3] rfl hj3
        · refine r_aload_n hC dX11_rig_23 rfl 0 rfl ?_
          refine r_getR hC clX11 0 1 6 rfl rfl rfl (hC.n rfl) rfl lf_X11_19 dX11_rig_24 ?_
          refine r_getR hC clX0 6 1 8 rfl rfl rfl (hC.n rfl) rfl lf_X11_134 dX11_rig_27 ?_
          refine r_iload_n hC dX11_rig_30 rfl 1 rfl ?_
          refine r_gd (fun g14 => ?_)
          refine r_iald hC 8 8 rfl rfl g14 dX11_rig_31 ?_
          refine r_nmI (fun v15 => ?_)
          refine r_istore (lv' := [(4, .int v15), (0, .ref (wA w 0)), (1, .int a2), (2, .int a3), (3, .int a4)]) hC dX11_rig_32 (by decide) rfl ?_
          refine r_aload_n hC dX11_rig_34 rfl 1 rfl ?_
          refine r_getR hC clX11 0 1 6 rfl rfl rfl (hC.n rfl) rfl lf_X11_19 dX11_rig_35 ?_
          refine r_getR hC clX0 6 1 8 rfl rfl rfl (hC.n rfl) rfl lf_X11_134 dX11_rig_38 ?_
          refine r_iload_n hC dX11_rig_41 rfl 2 rfl ?_
          refine r_iload_n hC dX11_rig_42 rfl 4 rfl ?_
          refine r_gd (fun g16 => ?_)
          refine r_iast hC 8 8 rfl rfl g16 dX11_rig_43 ?_
          refine r_nmS (fun σ17 => ?_)
          refine r_iload hC dX11_rig_44 0 rfl ?_
          exact r_iret hC hret rfl dX11_rig_46
  · refine r_bipush (v := (-2)) hC dX11_rig_7 (by decide) ?_
    exact r_iret hC hret rfl dX11_rig_9
set_option maxHeartbeats 4000000 in
set_option maxRecDepth 100000 in
theorem c_X11_water {l : Launch} {w : Wd} (hW : HWd w shX rX 66) (σ : St) (a2 : Int32) (a3 : Int32)  : ∀ res, f_X11_water σ a2 a3 = some res → MtI l yX11_water cX11_water 4 .int 1 22 w [.ref (wA w 0), .int a2, .int a3] σ res := by
  refine mt_I (by decide) rfl hW (fun X hl0 hC hret => ?_)
  show RF X w (Aw w (xs_ X).heap.size) 4 (QI X w) (f_X11_water σ a2 a3) 0 [(0, .ref (wA w 0)), (1, .int a2), (2, .int a3)] [] σ
  unfold f_X11_water
  refine r_iload_n hC dX11_water_0 rfl 1 rfl ?_
  refine r_jn (T := fun (j1 : Option (Int32 × St)) => RF X w (Aw w (xs_ X).heap.size) 4 (QI X w) j1 33 [(0, .ref (wA w 0)), (1, .int a2), (2, .int a3)] [] σ) ?_ (fun j1 hj1 => ?_)
  · refine r_iload_n hC dX11_water_33 rfl 1 rfl ?_
    refine r_iconst (v := 1) hC dX11_water_34 (by decide) ?_
    refine r_icmp_ne hC 67 dX11_water_35 (by decide) (fun c2 => ?_) (fun c2 => ?_)
    · refine r_sipush (v := (-1000)) hC dX11_water_67 (by decide) ?_
      exact r_iret hC hret rfl dX11_water_70
    · refine r_iload_n hC dX11_water_38 rfl 2 rfl ?_
      refine r_bipush (v := (-99)) hC dX11_water_39 (by decide) ?_
      refine r_bipush (v := 99) hC dX11_water_41 (by decide) ?_
      refine r_callSP hC (st := []) [.int a3, .int (-99), .int 99] (c_X11_within hC.w σ a3 (-99) 99) yk_X11_within lm_X11_99 rfl ⟨rfl, rfl⟩ rfl dX11_water_43 (fun v3 => ?_)
      refine r_if_eq hC 67 dX11_water_46 (by decide) (fun c4 => ?_) (fun c4 => ?_)
      · refine r_sipush (v := (-1000)) hC dX11_water_67 (by decide) ?_
        exact r_iret hC hret rfl dX11_water_70
      · refine r_aload_n hC dX11_water_49 rfl 0 rfl ?_
        refine r_getR hC clX11 0 1 6 rfl rfl rfl (hC.n rfl) rfl lf_X11_19 dX11_water_50 ?_
        refine r_getI hC clX0 6 4 rfl rfl (hC.n rfl) rfl lf_X11_143 dX11_water_53 ?_
        refine r_nmI (fun v5 => ?_)
        refine r_istore_n (lv' := [(3, .int v5), (0, .ref (wA w 0)), (1, .int a2), (2, .int a3)]) hC dX11_water_56 rfl (by decide) rfl ?_
        refine r_aload_n hC dX11_water_57 rfl 1 rfl ?_
        refine r_getR hC clX11 0 1 6 rfl rfl rfl (hC.n rfl) rfl lf_X11_19 dX11_water_58 ?_
        refine r_iload_n hC dX11_water_61 rfl 3 rfl ?_
        refine r_putI hC clX0 6 4 rfl rfl rfl (hC.n rfl) rfl rfl lf_X11_143 dX11_water_62 ?_
        refine r_nmS (fun σ6 => ?_)
        refine r_iload_n hC dX11_water_65 rfl 0 rfl ?_
        exact r_iret hC hret rfl dX11_water_66
  · refine r_if_ne hC 33 dX11_water_1 (by decide) (fun c7 => ?_) (fun c7 => ?_)
    · exact r_lv [0, 1, 2] rfl hj1
    · refine r_iload_n hC dX11_water_4 rfl 2 rfl ?_
      refine r_iconst (v := 1) hC dX11_water_5 (by decide) ?_
      refine r_sipush (v := 999) hC dX11_water_6 (by decide) ?_
      refine r_callSP hC (st := []) [.int a3, .int 1, .int 999] (c_X11_within hC.w σ a3 1 999) yk_X11_within lm_X11_99 rfl ⟨rfl, rfl⟩ rfl dX11_water_9 (fun v8 => ?_)
      refine r_if_eq hC 33 dX11_water_12 (by decide) (fun c9 => ?_) (fun c9 => ?_)
      · exact r_lv [0, 1, 2] rfl hj1
      · refine r_aload_n hC dX11_water_15 rfl 0 rfl ?_
        refine r_getR hC clX11 0 1 6 rfl rfl rfl (hC.n rfl) rfl lf_X11_19 dX11_water_16 ?_
        refine r_getI hC clX0 6 3 rfl rfl (hC.n rfl) rfl lf_X11_140 dX11_water_19 ?_
        refine r_nmI (fun v10 => ?_)
        refine r_istore_n (lv' := [(3, .int v10), (0, .ref (wA w 0)), (1, .int a2), (2, .int a3)]) hC dX11_water_22 rfl (by decide) rfl ?_
        refine r_aload_n hC dX11_water_23 rfl 1 rfl ?_
        refine r_getR hC clX11 0 1 6 rfl rfl rfl (hC.n rfl) rfl lf_X11_19 dX11_water_24 ?_
        refine r_iload_n hC dX11_water_27 rfl 3 rfl ?_
        refine r_putI hC clX0 6 3 rfl rfl rfl (hC.n rfl) rfl rfl lf_X11_140 dX11_water_28 ?_
        refine r_nmS (fun σ11 => ?_)
        refine r_iload_n hC dX11_water_31 rfl 0 rfl ?_
        exact r_iret hC hret rfl dX11_water_32
set_option maxHeartbeats 4000000 in
set_option maxRecDepth 100000 in
theorem c_X11_stroke {l : Launch} {w : Wd} (hW : HWd w shX rX 66) (σ : St) (a2 : Int32) (a3 : Int32) (a4 : Int32) (a5 : Int32)  : ∀ res, f_X11_stroke a2 a3 a4 a5 = some res → MtI l yX11_stroke cX11_stroke 5 .int 2 46 w [.ref (wA w 0), .int a2, .int a3, .int a4, .int a5] σ (res, σ) := by
  refine mt_P (by decide) rfl hW (fun X hl0 hC hret => ?_)
  show RF X w (Aw w (xs_ X).heap.size) 5 (fun r => QI X w (r, σ)) (f_X11_stroke a2 a3 a4 a5) 0 [(0, .ref (wA w 0)), (1, .int a2), (2, .int a3), (3, .int a4), (4, .int a5)] [] σ
  unfold f_X11_stroke
  refine r_iload_n hC dX11_stroke_0 rfl 1 rfl ?_
  refine r_callSP hC (st := []) [.int a2] (c_X3_has hC.w σ a2) yk_X3_has lm_X11_146 rfl ⟨rfl, rfl⟩ rfl dX11_stroke_1 (fun v1 => ?_)
  refine r_if_eq hC 25 dX11_stroke_4 (by decide) (fun c2 => ?_) (fun c2 => ?_)
  · refine r_bipush (v := (-2)) hC dX11_stroke_25 (by decide) ?_
    exact r_iretP hC hret rfl dX11_stroke_27
  · refine r_iload_n hC dX11_stroke_7 rfl 2 rfl ?_
    refine r_iconst (v := 0) hC dX11_stroke_8 (by decide) ?_
    refine r_sipush (v := 999) hC dX11_stroke_9 (by decide) ?_
    refine r_callSP hC (st := []) [.int a3, .int 0, .int 999] (c_X11_within hC.w σ a3 0 999) yk_X11_within lm_X11_99 rfl ⟨rfl, rfl⟩ rfl dX11_stroke_12 (fun v3 => ?_)
    refine r_if_eq hC 25 dX11_stroke_15 (by decide) (fun c4 => ?_) (fun c4 => ?_)
    · refine r_bipush (v := (-2)) hC dX11_stroke_25 (by decide) ?_
      exact r_iretP hC hret rfl dX11_stroke_27
    · refine r_iload_n hC dX11_stroke_18 rfl 3 rfl ?_
      refine r_callSP hC (st := []) [.int a4] (c_X11_isSeat hC.w σ a4) yk_X11_isSeat lm_X11_127 rfl ⟨rfl, rfl⟩ rfl dX11_stroke_19 (fun v5 => ?_)
      refine r_if_ne hC 28 dX11_stroke_22 (by decide) (fun c6 => ?_) (fun c6 => ?_)
      · refine r_iload hC dX11_stroke_28 4 rfl ?_
        refine r_tab1 (off := 26) hC 56 0 dX11_stroke_30 (by decide) (by decide) (by decide) (by decide) ?_ (fun c8 => ?_)
        · refine r_iload_n hC dX11_stroke_56 rfl 1 rfl ?_
          refine r_iload_n hC dX11_stroke_57 rfl 2 rfl ?_
          refine r_iload_n hC dX11_stroke_58 rfl 3 rfl ?_
          refine r_callSP hC (st := []) [.int a2, .int a3, .int a4] (c_X3_pull hC.w σ a2 a3 a4) yk_X3_pull lm_X11_149 rfl ⟨rfl, rfl⟩ rfl dX11_stroke_59 (fun v7 => ?_)
          exact r_iretP hC hret rfl dX11_stroke_62
        · refine r_tab1 (off := 33) hC 63 1 dX11_stroke_30 (by decide) (by decide) (by decide) (by decide) ?_ (fun c10 => ?_)
          · refine r_iload_n hC dX11_stroke_63 rfl 1 rfl ?_
            refine r_iload_n hC dX11_stroke_64 rfl 2 rfl ?_
            refine r_callSP hC (st := []) [.int a2, .int a3] (c_X3_cost hC.w σ a2 a3) yk_X3_cost lm_X11_153 rfl ⟨rfl, rfl⟩ rfl dX11_stroke_65 (fun v9 => ?_)
            exact r_iretP hC hret rfl dX11_stroke_68
          · refine r_tab1 (off := 39) hC 69 2 dX11_stroke_30 (by decide) (by decide) (by decide) (by decide) ?_ (fun c12 => ?_)
            · refine r_iload_n hC dX11_stroke_69 rfl 1 rfl ?_
              refine r_callSP hC (st := []) [.int a2] (c_X3_slips hC.w σ a2) yk_X3_slips lm_X11_156 rfl ⟨rfl, rfl⟩ rfl dX11_stroke_70 (fun v11 => ?_)
              exact r_iretP hC hret rfl dX11_stroke_73
            · refine r_tabD hC 74 dX11_stroke_30 (by have e0 := ne_toInt (a := 0) (by decide) c8; have e1 := ne_toInt (a := 1) (by decide) c10; have e2 := ne_toInt (a := 2) (by decide) c12; omega) (by decide) ?_
              refine r_bipush (v := (-2)) hC dX11_stroke_74 (by decide) ?_
              exact r_iretP hC hret rfl dX11_stroke_76
      · refine r_bipush (v := (-2)) hC dX11_stroke_25 (by decide) ?_
        exact r_iretP hC hret rfl dX11_stroke_27
set_option maxHeartbeats 4000000 in
set_option maxRecDepth 100000 in
theorem c_X11_feed {l : Launch} {w : Wd} (hW : HWd w shX rX 66) (σ : St) (a2 : Int32) (a3 : Int64)  : ∀ res, f_X11_feed σ a2 a3 = some res → MtI l yX11_feed cX11_feed 4 .int 1 24 w [.ref (wA w 0), .int a2, .long a3] σ res := by
  refine mt_I (by decide) rfl hW (fun X hl0 hC hret => ?_)
  show RF X w (Aw w (xs_ X).heap.size) 4 (QI X w) (f_X11_feed σ a2 a3) 0 [(0, .ref (wA w 0)), (1, .int a2), (2, .long a3)] [] σ
  unfold f_X11_feed
  refine r_iload_n hC dX11_feed_0 rfl 1 rfl ?_
  refine r_iconst (v := 1) hC dX11_feed_1 (by decide) ?_
  refine r_bipush (v := 8) hC dX11_feed_2 (by decide) ?_
  refine r_callSP hC (st := []) [.int a2, .int 1, .int 8] (c_X11_within hC.w σ a2 1 8) yk_X11_within lm_X11_99 rfl ⟨rfl, rfl⟩ rfl dX11_feed_4 (fun v1 => ?_)
  refine r_if_ne hC 13 dX11_feed_7 (by decide) (fun c2 => ?_) (fun c2 => ?_)
  · refine r_aload_n hC dX11_feed_13 rfl 0 rfl ?_
    refine r_getR hC clX11 0 6 15 rfl rfl rfl (hC.n rfl) rfl lf_X11_37 dX11_feed_14 ?_
    refine r_iload_n hC dX11_feed_17 rfl 1 rfl ?_
    refine r_lload_n hC dX11_feed_18 rfl 2 rfl ?_
    refine r_callVI hC (b := 15) (ci := 8) (st := []) [.int a2, .long a3] rfl (hC.n rfl) rfl rfl (c_X8_add hC.w σ a2 a3) yk_X8_add lm_X11_159 rfl ⟨rfl, rfl⟩ rfl dX11_feed_19 (fun v3 σ4 => ?_)
    exact r_iret hC hret rfl dX11_feed_22
  · refine r_bipush (v := (-2)) hC dX11_feed_10 (by decide) ?_
    exact r_iret hC hret rfl dX11_feed_12
set_option maxHeartbeats 4000000 in
set_option maxRecDepth 100000 in
theorem c_X11_force {l : Launch} {w : Wd} (hW : HWd w shX rX 66) (σ : St) (a2 : Int32)  : ∀ res, f_X11_force σ a2 = some res → MtI l yX11_force cX11_force 3 .int 1 22 w [.ref (wA w 0), .int a2] σ res := by
  refine mt_I (by decide) rfl hW (fun X hl0 hC hret => ?_)
  show RF X w (Aw w (xs_ X).heap.size) 3 (QI X w) (f_X11_force σ a2) 0 [(0, .ref (wA w 0)), (1, .int a2)] [] σ
  unfold f_X11_force
  refine r_iload_n hC dX11_force_0 rfl 1 rfl ?_
  refine r_iconst (v := 0) hC dX11_force_1 (by decide) ?_
  refine r_aload_n hC dX11_force_2 rfl 0 rfl ?_
  refine r_getI hC clX11 0 9 rfl rfl (hC.n rfl) rfl lf_X11_59 dX11_force_3 ?_
  refine r_nmI (fun v1 => ?_)
  refine r_iconst (v := 1) hC dX11_force_6 (by decide) ?_
  refine r_isub hC dX11_force_7 ?_
  refine r_callSP hC (st := []) [.int a2, .int 0, .int (v1 - 1)] (c_X11_within hC.w σ a2 0 (v1 - 1)) yk_X11_within lm_X11_99 rfl ⟨rfl, rfl⟩ rfl dX11_force_8 (fun v2 => ?_)
  refine r_if_ne hC 17 dX11_force_11 (by decide) (fun c3 => ?_) (fun c3 => ?_)
  · refine r_aload_n hC dX11_force_17 rfl 0 rfl ?_
    refine r_getI hC clX11 0 10 rfl rfl (hC.n rfl) rfl lf_X11_173 dX11_force_18 ?_
    refine r_nmI (fun v4 => ?_)
    refine r_istore_n (lv' := [(2, .int v4), (0, .ref (wA w 0)), (1, .int a2)]) hC dX11_force_21 rfl (by decide) rfl ?_
    refine r_aload_n hC dX11_force_22 rfl 1 rfl ?_
    refine r_iload_n hC dX11_force_23 rfl 2 rfl ?_
    refine r_putI hC clX11 0 10 rfl rfl rfl (hC.n rfl) rfl rfl lf_X11_173 dX11_force_24 ?_
    refine r_nmS (fun σ5 => ?_)
    refine r_iload_n hC dX11_force_27 rfl 0 rfl ?_
    exact r_iret hC hret rfl dX11_force_28
  · refine r_bipush (v := (-2)) hC dX11_force_14 (by decide) ?_
    exact r_iret hC hret rfl dX11_force_16
set_option maxHeartbeats 4000000 in
set_option maxRecDepth 100000 in
theorem c_X11_plan {l : Launch} {w : Wd} (hW : HWd w shX rX 66) (σ : St)   : ∀ res, f_X11_plan σ = some res → MtI l yX11_plan cX11_plan 2 .int 9 207 w [.ref (wA w 0)] σ res := by
  refine mt_I (by decide) rfl hW (fun X hl0 hC hret => ?_)
  show RF X w (Aw w (xs_ X).heap.size) 2 (QI X w) (f_X11_plan σ) 0 [(0, .ref (wA w 0))] [] σ
  unfold f_X11_plan
  refine r_aload_n hC dX11_plan_0 rfl 0 rfl ?_
  refine r_getR hC clX11 0 11 20 rfl rfl rfl (hC.n rfl) rfl lf_X11_65 dX11_plan_1 ?_
  refine r_callVP hC (b := 20) (ci := 4) (st := []) [] rfl (hC.n rfl) rfl rfl (c_X4_isFull hC.w σ) yk_X4_isFull lm_X11_176 rfl ⟨rfl, rfl⟩ rfl dX11_plan_4 (fun v1 => ?_)
  refine r_if_eq hC 13 dX11_plan_7 (by decide) (fun c2 => ?_) (fun c2 => ?_)
  · refine r_aload_n hC dX11_plan_13 rfl 0 rfl ?_
    refine r_getR hC clX11 0 11 20 rfl rfl rfl (hC.n rfl) rfl lf_X11_65 dX11_plan_14 ?_
    refine r_callVI hC (b := 20) (ci := 4) (st := []) [] rfl (hC.n rfl) rfl rfl (c_X4_read hC.w σ) yk_X4_read lm_X11_180 rfl ⟨rfl, rfl⟩ rfl dX11_plan_17 (fun v3 σ4 => ?_)
    refine r_istore_n (lv' := [(1, .int v3), (0, .ref (wA w 0))]) hC dX11_plan_20 rfl (by decide) rfl ?_
    refine r_aload_n hC dX11_plan_21 rfl 1 rfl ?_
    refine r_getR hC clX11 0 6 15 rfl rfl rfl (hC.n rfl) rfl lf_X11_37 dX11_plan_22 ?_
    refine r_iconst (v := 0) hC dX11_plan_25 (by decide) ?_
    refine r_putI hC clX8 15 1 rfl rfl rfl (hC.n rfl) rfl rfl lf_X11_166 dX11_plan_26 ?_
    refine r_nmS (fun σ5 => ?_)
    refine r_iload_n hC dX11_plan_29 rfl 0 rfl ?_
    refine r_iconst (v := (-1)) hC dX11_plan_30 (by decide) ?_
    refine r_icmp_ne hC 46 dX11_plan_31 (by decide) (fun c6 => ?_) (fun c6 => ?_)
    · refine r_bipush (v := (-100)) hC dX11_plan_46 (by decide) ?_
      refine r_iload_n hC dX11_plan_48 rfl 0 rfl ?_
      refine r_isub hC dX11_plan_49 ?_
      exact r_iret hC hret rfl dX11_plan_50
    · refine r_aload_n hC dX11_plan_34 rfl 1 rfl ?_
      refine r_getR hC clX11 0 11 20 rfl rfl rfl (hC.n rfl) rfl lf_X11_65 dX11_plan_35 ?_
      refine r_getI hC clX4 20 3 rfl rfl (hC.n rfl) rfl lf_X11_183 dX11_plan_38 ?_
      refine r_nmI (fun v7 => ?_)
      refine r_iconst (v := 1) hC dX11_plan_41 (by decide) ?_
      refine r_isub hC dX11_plan_42 ?_
      refine r_goto hC 50 dX11_plan_43 (by decide) ?_
      exact r_iret hC hret rfl dX11_plan_50
  · refine r_bipush (v := (-4)) hC dX11_plan_10 (by decide) ?_
    exact r_iret hC hret rfl dX11_plan_12
set_option maxHeartbeats 4000000 in
set_option maxRecDepth 100000 in
theorem c_X11_planned {l : Launch} {w : Wd} (hW : HWd w shX rX 66) (σ : St) (a2 : Int32) (a3 : Int32)  : ∀ res, f_X11_planned σ a2 a3 = some res → MtI l yX11_planned cX11_planned 3 .int 2 43 w [.ref (wA w 0), .int a2, .int a3] σ (res, σ) := by
  refine mt_P (by decide) rfl hW (fun X hl0 hC hret => ?_)
  show RF X w (Aw w (xs_ X).heap.size) 3 (fun r => QI X w (r, σ)) (f_X11_planned σ a2 a3) 0 [(0, .ref (wA w 0)), (1, .int a2), (2, .int a3)] [] σ
  unfold f_X11_planned
  refine r_aload_n hC dX11_planned_0 rfl 0 rfl ?_
  refine r_getR hC clX11 0 11 20 rfl rfl rfl (hC.n rfl) rfl lf_X11_65 dX11_planned_1 ?_
  refine r_iload_n hC dX11_planned_4 rfl 1 rfl ?_
  refine r_callVP hC (b := 20) (ci := 4) (st := []) [.int a2] rfl (hC.n rfl) rfl rfl (c_X4_has hC.w σ a2) yk_X4_has lm_X11_184 rfl ⟨rfl, rfl⟩ rfl dX11_planned_5 (fun v1 => ?_)
  refine r_if_ne hC 13 dX11_planned_8 (by decide) (fun c2 => ?_) (fun c2 => ?_)
  · refine r_iload_n hC dX11_planned_13 rfl 2 rfl ?_
    refine r_iconst (v := (-1)) hC dX11_planned_14 (by decide) ?_
    refine r_icmp_ne hC 30 dX11_planned_15 (by decide) (fun c3 => ?_) (fun c3 => ?_)
    · refine r_aload_n hC dX11_planned_30 rfl 0 rfl ?_
      refine r_getR hC clX11 0 11 20 rfl rfl rfl (hC.n rfl) rfl lf_X11_65 dX11_planned_31 ?_
      refine r_iload_n hC dX11_planned_34 rfl 1 rfl ?_
      refine r_iload_n hC dX11_planned_35 rfl 2 rfl ?_
      refine r_callVP hC (b := 20) (ci := 4) (st := []) [.int a2, .int a3] rfl (hC.n rfl) rfl rfl (c_X4_kindOf hC.w σ a2 a3) yk_X4_kindOf lm_X11_188 rfl ⟨rfl, rfl⟩ rfl dX11_planned_36 (fun v4 => ?_)
      exact r_iretP hC hret rfl dX11_planned_39
    · refine r_aload_n hC dX11_planned_18 rfl 0 rfl ?_
      refine r_getR hC clX11 0 11 20 rfl rfl rfl (hC.n rfl) rfl lf_X11_65 dX11_planned_19 ?_
      refine r_getR hC clX4 20 2 22 rfl rfl rfl (hC.n rfl) rfl lf_X11_185 dX11_planned_22 ?_
      refine r_iload_n hC dX11_planned_25 rfl 1 rfl ?_
      refine r_gd (fun g5 => ?_)
      refine r_iald hC 22 8 rfl rfl g5 dX11_planned_26 ?_
      refine r_nmI (fun v6 => ?_)
      refine r_goto hC 39 dX11_planned_27 (by decide) ?_
      exact r_iretP hC hret rfl dX11_planned_39
  · refine r_iconst (v := (-1)) hC dX11_planned_11 (by decide) ?_
    exact r_iretP hC hret rfl dX11_planned_12
set_option maxHeartbeats 4000000 in
set_option maxRecDepth 100000 in
theorem c_X11_rowBy {l : Launch} {w : Wd} (hW : HWd w shX rX 66) {nc : Nat} (hnc : nc ≤ wN w) (σ : St) (a2 : Int32)  : ∀ res, f_X11_rowBy nc σ a2 = some res → MtV l yX11_rowBy cX11_rowBy 2 5 126 w [.ref (wA w 0), .int a2] σ res := by
  refine mt_V (by decide) rfl hW (fun X hl0 hC hret => ?_)
  show RF X w (Aw w (xs_ X).heap.size) 2 (QV X w) (f_X11_rowBy nc σ a2) 0 [(0, .ref (wA w 0)), (1, .int a2)] [] σ
  unfold f_X11_rowBy
  refine r_aload_n hC dX11_rowBy_0 rfl 0 rfl ?_
  refine r_getR hC clX11 0 12 31 rfl rfl rfl (hC.n rfl) rfl lf_X11_74 dX11_rowBy_1 ?_
  refine r_aload_n hC dX11_rowBy_4 rfl 0 rfl ?_
  refine r_getR hC clX11 0 8 19 rfl rfl rfl (hC.n rfl) rfl lf_X11_52 dX11_rowBy_5 ?_
  refine r_aload_n hC dX11_rowBy_8 rfl 0 rfl ?_
  refine r_getI hC clX11 0 10 rfl rfl (hC.n rfl) rfl lf_X11_173 dX11_rowBy_9 ?_
  refine r_nmI (fun v1 => ?_)
  refine r_gd (fun g2 => ?_)
  refine r_aaldR hC 19 6 rfl rfl g2 rfl dX11_rowBy_12 ?_
  refine r_mo ?_ (fun c3 => ?_)
  · exact r_none
  · refine r_gd (fun g4 => ?_)
    refine r_callVV hC (b := 31) (ci := 1) (st := []) [.ref (wA w c3)] rfl (hC.n rfl) rfl rfl (c_X1_begin hC.w σ c3) yk_X1_begin lm_X11_227 rfl ⟨rfl, rfl⟩ rfl dX11_rowBy_13 (fun σ5 => ?_)
    refine r_aload_n hC dX11_rowBy_16 rfl 0 rfl ?_
    refine r_getR hC clX11 0 12 31 rfl rfl rfl (hC.n rfl) rfl lf_X11_74 dX11_rowBy_17 ?_
    refine r_aload_n hC dX11_rowBy_20 rfl 0 rfl ?_
    refine r_getR hC clX11 0 11 20 rfl rfl rfl (hC.n rfl) rfl lf_X11_65 dX11_rowBy_21 ?_
    refine r_getR hC clX4 20 1 21 rfl rfl rfl (hC.n rfl) rfl lf_X11_337 dX11_rowBy_24 ?_
    refine r_iload_n hC dX11_rowBy_27 rfl 1 rfl ?_
    refine r_gd (fun g6 => ?_)
    have e7 := aaK g6
    refine r_aald hC 21 8 (23 + Int32.toNatClampNeg a2) rfl rfl g6 e7.1 dX11_rowBy_28 ?_
    refine r_aload_n hC dX11_rowBy_29 rfl 0 rfl ?_
    refine r_getR hC clX11 0 11 20 rfl rfl rfl (hC.n rfl) rfl lf_X11_65 dX11_rowBy_30 ?_
    refine r_getR hC clX4 20 2 22 rfl rfl rfl (hC.n rfl) rfl lf_X11_185 dX11_rowBy_33 ?_
    refine r_iload_n hC dX11_rowBy_36 rfl 1 rfl ?_
    refine r_gd (fun g8 => ?_)
    refine r_iald hC 22 8 rfl rfl g8 dX11_rowBy_37 ?_
    refine r_nmI (fun v9 => ?_)
    refine r_callVV hC (b := 31) (ci := 1) (st := []) [.ref (wA w (23 + Int32.toNatClampNeg a2)), .int v9] rfl (hC.n rfl) rfl rfl (c_X1_pullAll hC.w hnc σ5 (23 + Int32.toNatClampNeg a2) v9 e7.2.1 e7.2.2) yk_X1_pullAll lm_X11_340 rfl ⟨rfl, rfl⟩ rfl dX11_rowBy_38 (fun σ10 => ?_)
    exact r_vret hC hret dX11_rowBy_41
set_option maxHeartbeats 4000000 in
set_option maxRecDepth 100000 in
theorem c_X11_row {l : Launch} {w : Wd} (hW : HWd w shX rX 66) {nc : Nat} (hnc : nc ≤ wN w) (σ : St) (a2 : Int32) (a3 : Int32)  : ∀ res, f_X11_row nc σ a2 a3 = some res → MtL l yX11_row cX11_row 3 .long 6 147 w [.ref (wA w 0), .int a2, .int a3] σ res := by
  refine mt_L (by decide) rfl hW (fun X hl0 hC hret => ?_)
  show RF X w (Aw w (xs_ X).heap.size) 3 (QL X w) (f_X11_row nc σ a2 a3) 0 [(0, .ref (wA w 0)), (1, .int a2), (2, .int a3)] [] σ
  unfold f_X11_row
  refine r_aload_n hC dX11_row_0 rfl 0 rfl ?_
  refine r_getR hC clX11 0 11 20 rfl rfl rfl (hC.n rfl) rfl lf_X11_65 dX11_row_1 ?_
  refine r_iload_n hC dX11_row_4 rfl 1 rfl ?_
  refine r_callVP hC (b := 20) (ci := 4) (st := []) [.int a2] rfl (hC.n rfl) rfl rfl (c_X4_has hC.w σ a2) yk_X4_has lm_X11_184 rfl ⟨rfl, rfl⟩ rfl dX11_row_5 (fun v1 => ?_)
  refine r_if_eq hC 20 dX11_row_8 (by decide) (fun c2 => ?_) (fun c2 => ?_)
  · refine r_ldc2 (v := (-4611686018427387904)) hC lc_X11_191 dX11_row_20 ?_
    exact r_lret hC hret dX11_row_23
  · refine r_iload_n hC dX11_row_11 rfl 2 rfl ?_
    refine r_iconst (v := 0) hC dX11_row_12 (by decide) ?_
    refine r_iconst (v := 4) hC dX11_row_13 (by decide) ?_
    refine r_callSP hC (st := []) [.int a3, .int 0, .int 4] (c_X11_within hC.w σ a3 0 4) yk_X11_within lm_X11_99 rfl ⟨rfl, rfl⟩ rfl dX11_row_14 (fun v3 => ?_)
    refine r_if_ne hC 24 dX11_row_17 (by decide) (fun c4 => ?_) (fun c4 => ?_)
    · refine r_aload_n hC dX11_row_24 rfl 0 rfl ?_
      refine r_iload_n hC dX11_row_25 rfl 1 rfl ?_
      refine r_callVV hC (b := 0) (ci := 11) (st := []) [.int a2] rfl (hC.n rfl) rfl rfl (c_X11_rowBy hC.w hnc σ a2) yk_X11_rowBy lm_X11_193 rfl ⟨rfl, rfl⟩ rfl dX11_row_26 (fun σ5 => ?_)
      refine r_iload_n hC dX11_row_29 rfl 2 rfl ?_
      refine r_tab1 (off := 30) hC 60 0 dX11_row_30 (by decide) (by decide) (by decide) (by decide) ?_ (fun c7 => ?_)
      · refine r_aload_n hC dX11_row_60 rfl 0 rfl ?_
        refine r_getR hC clX11 0 12 31 rfl rfl rfl (hC.n rfl) rfl lf_X11_74 dX11_row_61 ?_
        refine r_getL hC clX1 31 11 rfl rfl (hC.n rfl) rfl lf_X11_197 dX11_row_64 ?_
        refine r_nmL (fun v6 => ?_)
        exact r_lret hC hret dX11_row_67
      · refine r_tab1 (off := 38) hC 68 1 dX11_row_30 (by decide) (by decide) (by decide) (by decide) ?_ (fun c9 => ?_)
        · refine r_aload_n hC dX11_row_68 rfl 0 rfl ?_
          refine r_getR hC clX11 0 12 31 rfl rfl rfl (hC.n rfl) rfl lf_X11_74 dX11_row_69 ?_
          refine r_getI hC clX1 31 10 rfl rfl (hC.n rfl) rfl lf_X11_201 dX11_row_72 ?_
          refine r_nmI (fun v8 => ?_)
          refine r_i2l hC dX11_row_75 ?_
          exact r_lret hC hret dX11_row_76
        · refine r_tab1 (off := 47) hC 77 2 dX11_row_30 (by decide) (by decide) (by decide) (by decide) ?_ (fun c11 => ?_)
          · refine r_aload_n hC dX11_row_77 rfl 0 rfl ?_
            refine r_getR hC clX11 0 12 31 rfl rfl rfl (hC.n rfl) rfl lf_X11_74 dX11_row_78 ?_
            refine r_getL hC clX1 31 12 rfl rfl (hC.n rfl) rfl lf_X11_204 dX11_row_81 ?_
            refine r_nmL (fun v10 => ?_)
            exact r_lret hC hret dX11_row_84
          · refine r_tab1 (off := 55) hC 85 3 dX11_row_30 (by decide) (by decide) (by decide) (by decide) ?_ (fun c13 => ?_)
            · refine r_aload_n hC dX11_row_85 rfl 0 rfl ?_
              refine r_getR hC clX11 0 12 31 rfl rfl rfl (hC.n rfl) rfl lf_X11_74 dX11_row_86 ?_
              refine r_getL hC clX1 31 13 rfl rfl (hC.n rfl) rfl lf_X11_207 dX11_row_89 ?_
              refine r_nmL (fun v12 => ?_)
              exact r_lret hC hret dX11_row_92
            · refine r_tabD hC 93 dX11_row_30 (by have e0 := ne_toInt (a := 0) (by decide) c7; have e1 := ne_toInt (a := 1) (by decide) c9; have e2 := ne_toInt (a := 2) (by decide) c11; have e3 := ne_toInt (a := 3) (by decide) c13; omega) (by decide) ?_
              refine r_aload_n hC dX11_row_93 rfl 0 rfl ?_
              refine r_getR hC clX11 0 12 31 rfl rfl rfl (hC.n rfl) rfl lf_X11_74 dX11_row_94 ?_
              refine r_getL hC clX1 31 14 rfl rfl (hC.n rfl) rfl lf_X11_210 dX11_row_97 ?_
              refine r_nmL (fun v14 => ?_)
              exact r_lret hC hret dX11_row_100
    · refine r_ldc2 (v := (-4611686018427387904)) hC lc_X11_191 dX11_row_20 ?_
      exact r_lret hC hret dX11_row_23
set_option maxHeartbeats 4000000 in
set_option maxRecDepth 100000 in
theorem c_X11_left {l : Launch} {w : Wd} (hW : HWd w shX rX 66) {nc : Nat} (hnc : nc ≤ wN w) (σ : St) (a2 : Int32) (a3 : Int32)  : ∀ res, f_X11_left nc σ a2 a3 = some res → MtI l yX11_left cX11_left 3 .int 6 147 w [.ref (wA w 0), .int a2, .int a3] σ res := by
  refine mt_I (by decide) rfl hW (fun X hl0 hC hret => ?_)
  show RF X w (Aw w (xs_ X).heap.size) 3 (QI X w) (f_X11_left nc σ a2 a3) 0 [(0, .ref (wA w 0)), (1, .int a2), (2, .int a3)] [] σ
  unfold f_X11_left
  refine r_aload_n hC dX11_left_0 rfl 0 rfl ?_
  refine r_getR hC clX11 0 11 20 rfl rfl rfl (hC.n rfl) rfl lf_X11_65 dX11_left_1 ?_
  refine r_iload_n hC dX11_left_4 rfl 1 rfl ?_
  refine r_callVP hC (b := 20) (ci := 4) (st := []) [.int a2] rfl (hC.n rfl) rfl rfl (c_X4_has hC.w σ a2) yk_X4_has lm_X11_184 rfl ⟨rfl, rfl⟩ rfl dX11_left_5 (fun v1 => ?_)
  refine r_if_eq hC 22 dX11_left_8 (by decide) (fun c2 => ?_) (fun c2 => ?_)
  · refine r_bipush (v := (-5)) hC dX11_left_22 (by decide) ?_
    exact r_iret hC hret rfl dX11_left_24
  · refine r_aload_n hC dX11_left_11 rfl 0 rfl ?_
    refine r_getR hC clX11 0 0 1 rfl rfl rfl (hC.n rfl) rfl lf_X11_10 dX11_left_12 ?_
    refine r_iload_n hC dX11_left_15 rfl 2 rfl ?_
    refine r_callVP hC (b := 1) (ci := 2) (st := []) [.int a3] rfl (hC.n rfl) rfl rfl (c_X2_has hC.w σ a3) yk_X2_has lm_X11_107 rfl ⟨rfl, rfl⟩ rfl dX11_left_16 (fun v3 => ?_)
    refine r_if_ne hC 25 dX11_left_19 (by decide) (fun c4 => ?_) (fun c4 => ?_)
    · refine r_aload_n hC dX11_left_25 rfl 0 rfl ?_
      refine r_iload_n hC dX11_left_26 rfl 1 rfl ?_
      refine r_callVV hC (b := 0) (ci := 11) (st := []) [.int a2] rfl (hC.n rfl) rfl rfl (c_X11_rowBy hC.w hnc σ a2) yk_X11_rowBy lm_X11_193 rfl ⟨rfl, rfl⟩ rfl dX11_left_27 (fun σ5 => ?_)
      refine r_aload_n hC dX11_left_30 rfl 0 rfl ?_
      refine r_getR hC clX11 0 12 31 rfl rfl rfl (hC.n rfl) rfl lf_X11_74 dX11_left_31 ?_
      refine r_getR hC clX1 31 9 36 rfl rfl rfl (hC.n rfl) rfl lf_X11_213 dX11_left_34 ?_
      refine r_iload_n hC dX11_left_37 rfl 2 rfl ?_
      refine r_gd (fun g6 => ?_)
      refine r_iald hC 36 16 rfl rfl g6 dX11_left_38 ?_
      refine r_nmI (fun v7 => ?_)
      exact r_iret hC hret rfl dX11_left_39
    · refine r_bipush (v := (-5)) hC dX11_left_22 (by decide) ?_
      exact r_iret hC hret rfl dX11_left_24
set_option maxHeartbeats 4000000 in
set_option maxRecDepth 100000 in
theorem c_X11_rown {l : Launch} {w : Wd} (hW : HWd w shX rX 66) {nc : Nat} (hnc : nc ≤ wN w) (σ : St) (a2 : Int32)  : ∀ res, f_X11_rown nc σ a2 = some res → MtL l yX11_rown cX11_rown 2 .long 6 147 w [.ref (wA w 0), .int a2] σ res := by
  refine mt_L (by decide) rfl hW (fun X hl0 hC hret => ?_)
  show RF X w (Aw w (xs_ X).heap.size) 2 (QL X w) (f_X11_rown nc σ a2) 0 [(0, .ref (wA w 0)), (1, .int a2)] [] σ
  unfold f_X11_rown
  refine r_aload_n hC dX11_rown_0 rfl 0 rfl ?_
  refine r_getR hC clX11 0 11 20 rfl rfl rfl (hC.n rfl) rfl lf_X11_65 dX11_rown_1 ?_
  refine r_iload_n hC dX11_rown_4 rfl 1 rfl ?_
  refine r_callVP hC (b := 20) (ci := 4) (st := []) [.int a2] rfl (hC.n rfl) rfl rfl (c_X4_has hC.w σ a2) yk_X4_has lm_X11_184 rfl ⟨rfl, rfl⟩ rfl dX11_rown_5 (fun v1 => ?_)
  refine r_if_ne hC 15 dX11_rown_8 (by decide) (fun c2 => ?_) (fun c2 => ?_)
  · refine r_aload_n hC dX11_rown_15 rfl 0 rfl ?_
    refine r_iload_n hC dX11_rown_16 rfl 1 rfl ?_
    refine r_callVV hC (b := 0) (ci := 11) (st := []) [.int a2] rfl (hC.n rfl) rfl rfl (c_X11_rowBy hC.w hnc σ a2) yk_X11_rowBy lm_X11_193 rfl ⟨rfl, rfl⟩ rfl dX11_rown_17 (fun σ3 => ?_)
    refine r_aload_n hC dX11_rown_20 rfl 0 rfl ?_
    refine r_getR hC clX11 0 12 31 rfl rfl rfl (hC.n rfl) rfl lf_X11_74 dX11_rown_21 ?_
    refine r_getR hC clX1 31 9 36 rfl rfl rfl (hC.n rfl) rfl lf_X11_213 dX11_rown_24 ?_
    refine r_iconst (v := 0) hC dX11_rown_27 (by decide) ?_
    refine r_aload_n hC dX11_rown_28 rfl 0 rfl ?_
    refine r_getR hC clX11 0 0 1 rfl rfl rfl (hC.n rfl) rfl lf_X11_10 dX11_rown_29 ?_
    refine r_getR hC clX2 1 2 4 rfl rfl rfl (hC.n rfl) rfl lf_X11_117 dX11_rown_32 ?_
    refine r_iconst (v := 0) hC dX11_rown_35 (by decide) ?_
    refine r_bipush (v := 16) hC dX11_rown_36 (by decide) ?_
    refine r_gd (fun g4 => ?_)
    refine r_copyi hC 36 4 16 16 rfl rfl rfl rfl g4 (by decide) (Nat.le_of_ble_eq_true rfl) lm_X11_214 wn_copy ws_copy wi_sys dX11_rown_38 ?_
    refine r_nmS (fun σ5 => ?_)
    refine r_aload_n hC dX11_rown_41 rfl 0 rfl ?_
    refine r_getR hC clX11 0 12 31 rfl rfl rfl (hC.n rfl) rfl lf_X11_74 dX11_rown_42 ?_
    refine r_getL hC clX1 31 11 rfl rfl (hC.n rfl) rfl lf_X11_197 dX11_rown_45 ?_
    refine r_nmL (fun v6 => ?_)
    exact r_lret hC hret dX11_rown_48
  · refine r_ldc2 (v := (-4611686018427387904)) hC lc_X11_191 dX11_rown_11 ?_
    exact r_lret hC hret dX11_rown_14
set_option maxHeartbeats 4000000 in
set_option maxRecDepth 100000 in
theorem c_X11_wayIfChanged {l : Launch} {w : Wd} (hW : HWd w shX rX 66) {nc : Nat} (hnc : nc ≤ wN w) (σ : St) (a2 : Int32) (a3 : Int32) (a4 : Int32)  : ∀ res, f_X11_wayIfChanged nc σ a2 a3 a4 = some res → MtL l yX11_wayIfChanged cX11_wayIfChanged 4 .long 5 126 w [.ref (wA w 0), .int a2, .int a3, .int a4] σ res := by
  refine mt_L (by decide) rfl hW (fun X hl0 hC hret => ?_)
  show RF X w (Aw w (xs_ X).heap.size) 4 (QL X w) (f_X11_wayIfChanged nc σ a2 a3 a4) 0 [(0, .ref (wA w 0)), (1, .int a2), (2, .int a3), (3, .int a4)] [] σ
  unfold f_X11_wayIfChanged
  refine r_aload_n hC dX11_wayIfChanged_0 rfl 0 rfl ?_
  refine r_getR hC clX11 0 12 31 rfl rfl rfl (hC.n rfl) rfl lf_X11_74 dX11_wayIfChanged_1 ?_
  refine r_aload_n hC dX11_wayIfChanged_4 rfl 0 rfl ?_
  refine r_getR hC clX11 0 8 19 rfl rfl rfl (hC.n rfl) rfl lf_X11_52 dX11_wayIfChanged_5 ?_
  refine r_aload_n hC dX11_wayIfChanged_8 rfl 0 rfl ?_
  refine r_getI hC clX11 0 10 rfl rfl (hC.n rfl) rfl lf_X11_173 dX11_wayIfChanged_9 ?_
  refine r_nmI (fun v1 => ?_)
  refine r_gd (fun g2 => ?_)
  refine r_aaldR hC 19 6 rfl rfl g2 rfl dX11_wayIfChanged_12 ?_
  refine r_mo ?_ (fun c3 => ?_)
  · exact r_none
  · refine r_gd (fun g4 => ?_)
    refine r_callVV hC (b := 31) (ci := 1) (st := []) [.ref (wA w c3)] rfl (hC.n rfl) rfl rfl (c_X1_begin hC.w σ c3) yk_X1_begin lm_X11_227 rfl ⟨rfl, rfl⟩ rfl dX11_wayIfChanged_13 (fun σ5 => ?_)
    refine r_aload_n hC dX11_wayIfChanged_16 rfl 0 rfl ?_
    refine r_getR hC clX11 0 12 31 rfl rfl rfl (hC.n rfl) rfl lf_X11_74 dX11_wayIfChanged_17 ?_
    refine r_iload_n hC dX11_wayIfChanged_20 rfl 2 rfl ?_
    refine r_iload_n hC dX11_wayIfChanged_21 rfl 3 rfl ?_
    refine r_callVV hC (b := 31) (ci := 1) (st := []) [.int a3, .int a4] rfl (hC.n rfl) rfl rfl (c_X1_changeSeats hC.w σ5 a3 a4) yk_X1_changeSeats lm_X11_343 rfl ⟨rfl, rfl⟩ rfl dX11_wayIfChanged_22 (fun σ6 => ?_)
    refine r_aload_n hC dX11_wayIfChanged_25 rfl 0 rfl ?_
    refine r_getR hC clX11 0 12 31 rfl rfl rfl (hC.n rfl) rfl lf_X11_74 dX11_wayIfChanged_26 ?_
    refine r_aload_n hC dX11_wayIfChanged_29 rfl 0 rfl ?_
    refine r_getR hC clX11 0 11 20 rfl rfl rfl (hC.n rfl) rfl lf_X11_65 dX11_wayIfChanged_30 ?_
    refine r_getR hC clX4 20 1 21 rfl rfl rfl (hC.n rfl) rfl lf_X11_337 dX11_wayIfChanged_33 ?_
    refine r_iload_n hC dX11_wayIfChanged_36 rfl 1 rfl ?_
    refine r_gd (fun g7 => ?_)
    have e8 := aaK g7
    refine r_aald hC 21 8 (23 + Int32.toNatClampNeg a2) rfl rfl g7 e8.1 dX11_wayIfChanged_37 ?_
    refine r_aload_n hC dX11_wayIfChanged_38 rfl 0 rfl ?_
    refine r_getR hC clX11 0 11 20 rfl rfl rfl (hC.n rfl) rfl lf_X11_65 dX11_wayIfChanged_39 ?_
    refine r_getR hC clX4 20 2 22 rfl rfl rfl (hC.n rfl) rfl lf_X11_185 dX11_wayIfChanged_42 ?_
    refine r_iload_n hC dX11_wayIfChanged_45 rfl 1 rfl ?_
    refine r_gd (fun g9 => ?_)
    refine r_iald hC 22 8 rfl rfl g9 dX11_wayIfChanged_46 ?_
    refine r_nmI (fun v10 => ?_)
    refine r_callVV hC (b := 31) (ci := 1) (st := []) [.ref (wA w (23 + Int32.toNatClampNeg a2)), .int v10] rfl (hC.n rfl) rfl rfl (c_X1_pullAll hC.w hnc σ6 (23 + Int32.toNatClampNeg a2) v10 e8.2.1 e8.2.2) yk_X1_pullAll lm_X11_340 rfl ⟨rfl, rfl⟩ rfl dX11_wayIfChanged_47 (fun σ11 => ?_)
    refine r_aload_n hC dX11_wayIfChanged_50 rfl 0 rfl ?_
    refine r_getR hC clX11 0 12 31 rfl rfl rfl (hC.n rfl) rfl lf_X11_74 dX11_wayIfChanged_51 ?_
    refine r_getL hC clX1 31 11 rfl rfl (hC.n rfl) rfl lf_X11_197 dX11_wayIfChanged_54 ?_
    refine r_nmL (fun v12 => ?_)
    exact r_lret hC hret dX11_wayIfChanged_57
set_option maxHeartbeats 4000000 in
set_option maxRecDepth 100000 in
theorem c_X11_more {l : Launch} {w : Wd} (hW : HWd w shX rX 66) {nc : Nat} (hnc : nc ≤ wN w) (σ : St) (a2 : Int32) (a3 : Int32)  : ∀ res, f_X11_more nc σ a2 a3 = some res → MtL l yX11_more cX11_more 7 .long 6 149 w [.ref (wA w 0), .int a2, .int a3] σ res := by
  refine mt_L (by decide) rfl hW (fun X hl0 hC hret => ?_)
  show RF X w (Aw w (xs_ X).heap.size) 7 (QL X w) (f_X11_more nc σ a2 a3) 0 [(0, .ref (wA w 0)), (1, .int a2), (2, .int a3)] [] σ
  unfold f_X11_more
  refine r_aload_n hC dX11_more_0 rfl 0 rfl ?_
  refine r_getR hC clX11 0 11 20 rfl rfl rfl (hC.n rfl) rfl lf_X11_65 dX11_more_1 ?_
  refine r_iload_n hC dX11_more_4 rfl 1 rfl ?_
  refine r_callVP hC (b := 20) (ci := 4) (st := []) [.int a2] rfl (hC.n rfl) rfl rfl (c_X4_has hC.w σ a2) yk_X4_has lm_X11_184 rfl ⟨rfl, rfl⟩ rfl dX11_more_5 (fun v1 => ?_)
  refine r_if_eq hC 15 dX11_more_8 (by decide) (fun c2 => ?_) (fun c2 => ?_)
  · refine r_ldc2 (v := (-4611686018427387904)) hC lc_X11_191 dX11_more_15 ?_
    exact r_lret hC hret dX11_more_18
  · refine r_iload_n hC dX11_more_11 rfl 2 rfl ?_
    refine r_if_ge hC 19 dX11_more_12 (by decide) (fun c3 => ?_) (fun c3 => ?_)
    · refine r_iload_n hC dX11_more_19 rfl 2 rfl ?_
      refine r_bipush (v := 10) hC dX11_more_20 (by decide) ?_
      refine r_idiv hC dX11_more_22 (by decide) ?_
      refine r_nmI (fun v4 => ?_)
      refine r_istore_n (lv' := [(3, .int v4), (0, .ref (wA w 0)), (1, .int a2), (2, .int a3)]) hC dX11_more_23 rfl (by decide) rfl ?_
      refine r_iload_n hC dX11_more_24 rfl 3 rfl ?_
      refine r_bipush (v := 10) hC dX11_more_25 (by decide) ?_
      refine r_irem hC dX11_more_27 (by decide) ?_
      refine r_nmI (fun v5 => ?_)
      refine r_istore (lv' := [(4, .int v5), (3, .int v4), (0, .ref (wA w 0)), (1, .int a2), (2, .int a3)]) hC dX11_more_28 (by decide) rfl ?_
      refine r_iload_n hC dX11_more_30 rfl 1 rfl ?_
      refine r_callSP hC (st := []) [.int v4] (c_X11_isSeat hC.w σ v4) yk_X11_isSeat lm_X11_127 rfl ⟨rfl, rfl⟩ rfl dX11_more_31 (fun v6 => ?_)
      refine r_if_eq hC 51 dX11_more_34 (by decide) (fun c7 => ?_) (fun c7 => ?_)
      · refine r_ldc2 (v := (-4611686018427387904)) hC lc_X11_191 dX11_more_51 ?_
        exact r_lret hC hret dX11_more_54
      · refine r_iload hC dX11_more_37 0 rfl ?_
        refine r_callSP hC (st := []) [.int v5] (c_X11_isSeat hC.w σ v5) yk_X11_isSeat lm_X11_127 rfl ⟨rfl, rfl⟩ rfl dX11_more_39 (fun v8 => ?_)
        refine r_if_eq hC 51 dX11_more_42 (by decide) (fun c9 => ?_) (fun c9 => ?_)
        · refine r_ldc2 (v := (-4611686018427387904)) hC lc_X11_191 dX11_more_51 ?_
          exact r_lret hC hret dX11_more_54
        · refine r_iload_n hC dX11_more_45 rfl 1 rfl ?_
          refine r_iload hC dX11_more_46 0 rfl ?_
          refine r_icmp_ne hC 55 dX11_more_48 (by decide) (fun c10 => ?_) (fun c10 => ?_)
          · refine r_aload_n hC dX11_more_55 rfl 2 rfl ?_
            refine r_iload_n hC dX11_more_56 rfl 3 rfl ?_
            refine r_callVV hC (b := 0) (ci := 11) (st := []) [.int a2] rfl (hC.n rfl) rfl rfl (c_X11_rowBy hC.w hnc σ a2) yk_X11_rowBy lm_X11_193 rfl ⟨rfl, rfl⟩ rfl dX11_more_57 (fun σ11 => ?_)
            refine r_aload_n hC dX11_more_60 rfl 2 rfl ?_
            refine r_getR hC clX11 0 12 31 rfl rfl rfl (hC.n rfl) rfl lf_X11_74 dX11_more_61 ?_
            refine r_getL hC clX1 31 11 rfl rfl (hC.n rfl) rfl lf_X11_197 dX11_more_64 ?_
            refine r_nmL (fun v12 => ?_)
            refine r_lstore (lv' := [(5, .long v12), (4, .int v5), (3, .int v4), (0, .ref (wA w 0)), (1, .int a2), (2, .int a3)]) hC dX11_more_67 (by decide) rfl ?_
            refine r_aload_n hC dX11_more_69 rfl 3 rfl ?_
            refine r_iload_n hC dX11_more_70 rfl 4 rfl ?_
            refine r_iload_n hC dX11_more_71 rfl 2 rfl ?_
            refine r_iload hC dX11_more_72 1 rfl ?_
            refine r_callVL hC (b := 0) (ci := 11) (st := []) [.int a2, .int v4, .int v5] rfl (hC.n rfl) rfl rfl (c_X11_wayIfChanged hC.w hnc σ11 a2 v4 v5) yk_X11_wayIfChanged lm_X11_220 rfl ⟨rfl, rfl⟩ rfl dX11_more_74 (fun v13 σ14 => ?_)
            refine r_lload hC dX11_more_77 0 rfl ?_
            refine r_lsub hC dX11_more_79 ?_
            exact r_lret hC hret dX11_more_80
          · refine r_ldc2 (v := (-4611686018427387904)) hC lc_X11_191 dX11_more_51 ?_
            exact r_lret hC hret dX11_more_54
    · refine r_ldc2 (v := (-4611686018427387904)) hC lc_X11_191 dX11_more_15 ?_
      exact r_lret hC hret dX11_more_18
set_option maxHeartbeats 4000000 in
set_option maxRecDepth 100000 in
theorem w_X11_change_l61 {X : Mc} {w : Wd} (hC : Cok X w (Aw w (xs_ X).heap.size) yX11_change.cls cX11_change 13 6 149 shX rX 66) (hret : (xmeth X).sig.returnType = some .long) (a2 : Int32) (nc : Nat) (v6 : Int64) (x9 : Int32) (a3 : Int32) (σ10 : St) (hnc : nc ≤ wN w)  (K24 : Int64 → Int32 → St → Option (Int64 × St)) (hK24 : ∀ (x21 : Int64) (x22 : Int32) (σ23 : St), RF X w (Aw w (xs_ X).heap.size) 13 (QL X w) (K24 x21 x22 σ23) 151 [(0, .ref (wA w 0)), (1, .int a2), (2, .int a3), (3, .long v6), (5, .long x21), (7, .int x22), (8, .int x9)] [] σ23) : ∀ (n : Nat) (x17 : Int64) (x18 : Int32) (x19 : Int32) (σ20 : St), RF X w (Aw w (xs_ X).heap.size) 13 (QL X w) (f_X11_change_l61 a2 nc v6 x9 K24 n x17 x18 x19 σ20) 61 [(0, .ref (wA w 0)), (1, .int a2), (2, .int a3), (3, .long v6), (5, .long x17), (7, .int x18), (8, .int x9), (9, .int x19)] [] σ20 := by
  intro n
  induction n with
  | zero => intro x17 x18 x19 σ20; rw [f_X11_change_l61]; exact r_none
  | succ n ih =>
    intro x17 x18 x19 σ20
    rw [f_X11_change_l61]
    refine r_iload hC dX11_change_61 7 rfl ?_
    refine r_bipush (v := 8) hC dX11_change_63 (by decide) ?_
    refine r_icmp_ge hC 151 dX11_change_65 (by decide) (fun c25 => ?_) (fun c25 => ?_)
    · exact r_lv [0, 1, 2, 3, 4, 5, 6] rfl (hK24 x17 x18 σ20)
    · refine r_aload_n hC dX11_change_68 rfl 0 rfl ?_
      refine r_getR hC clX11 0 1 6 rfl rfl rfl (hC.n rfl) rfl lf_X11_19 dX11_change_69 ?_
      refine r_getR hC clX0 6 0 7 rfl rfl rfl (hC.n rfl) rfl lf_X11_224 dX11_change_72 ?_
      refine r_iload hC dX11_change_75 6 rfl ?_
      refine r_gd (fun g26 => ?_)
      refine r_iald hC 7 8 rfl rfl g26 dX11_change_77 ?_
      refine r_nmI (fun v27 => ?_)
      refine r_iconst (v := (-1)) hC dX11_change_78 (by decide) ?_
      refine r_jn (T := fun (j29 : Int32 → Option (Int64 × St)) => ∀ (t28 : Int32), RF X w (Aw w (xs_ X).heap.size) 13 (QL X w) (j29 t28) 101 [(0, .ref (wA w 0)), (1, .int a2), (2, .int a3), (3, .long v6), (5, .long x17), (7, .int x18), (8, .int x9), (9, .int x19)] [.int t28] σ20) ?_ (fun j29 hj29 => ?_)
      · intro t28
        refine r_istore (lv' := [(10, .int t28), (0, .ref (wA w 0)), (1, .int a2), (2, .int a3), (3, .long v6), (5, .long x17), (7, .int x18), (8, .int x9), (9, .int x19)]) hC dX11_change_101 (by decide) rfl ?_
        refine r_iload hC dX11_change_103 0 rfl ?_
        refine r_jn (T := fun (j32 : Int64 → St → Option (Int64 × St)) => ∀ (t30 : Int64) (σ31 : St), RF X w (Aw w (xs_ X).heap.size) 13 (QL X w) (j32 t30 σ31) 121 [(0, .ref (wA w 0)), (1, .int a2), (2, .int a3), (3, .long v6), (5, .long x17), (7, .int x18), (8, .int x9), (9, .int x19)] [.long t30] σ31) ?_ (fun j32 hj32 => ?_)
        · intro t30 σ31
          refine r_lstore (lv' := [(11, .long t30), (0, .ref (wA w 0)), (1, .int a2), (2, .int a3), (3, .long v6), (5, .long x17), (7, .int x18), (8, .int x9), (9, .int x19)]) hC dX11_change_121 (by decide) rfl ?_
          refine r_lload hC dX11_change_123 0 rfl ?_
          refine r_lload hC dX11_change_125 5 rfl ?_
          refine r_jn (T := fun (j35 : Int64 → Int32 → Option (Int64 × St)) => ∀ (x33 : Int64) (x34 : Int32), RF X w (Aw w (xs_ X).heap.size) 13 (QL X w) (j35 x33 x34) 145 [(0, .ref (wA w 0)), (1, .int a2), (2, .int a3), (3, .long v6), (5, .long x33), (7, .int x34), (8, .int x9), (9, .int x19)] [] σ31) ?_ (fun j35 hj35 => ?_)
          · intro x33 x34
            refine r_iinc (v := x19 + 1) (lv' := [(9, .int (x19 + 1)), (0, .ref (wA w 0)), (1, .int a2), (2, .int a3), (3, .long v6), (5, .long x33), (7, .int x34), (8, .int x9)]) hC dX11_change_145 7 rfl rfl (by decide) rfl ?_
            refine r_goto hC 61 dX11_change_148 (by decide) ?_
            exact r_lv [1, 2, 3, 4, 5, 6, 7, 0] rfl (ih x33 x34 (x19 + 1) σ31)
          · refine r_lcmp_le hC 145 dX11_change_127 dX11_change_128 (by decide) (fun c36 => ?_) (fun c36 => ?_)
            · exact r_lv [1, 2, 3, 4, 5, 6, 7, 8] rfl (hj35 x17 x18)
            · refine r_lload hC dX11_change_131 0 rfl ?_
              refine r_lstore (lv' := [(5, .long t30), (11, .long t30), (0, .ref (wA w 0)), (1, .int a2), (2, .int a3), (3, .long v6), (7, .int x18), (8, .int x9), (9, .int x19)]) hC dX11_change_133 (by decide) rfl ?_
              refine r_bipush (v := 10) hC dX11_change_135 (by decide) ?_
              refine r_iload hC dX11_change_137 7 rfl ?_
              refine r_imul hC dX11_change_139 ?_
              refine r_iload hC dX11_change_140 8 rfl ?_
              refine r_iadd hC dX11_change_142 ?_
              refine r_nmI (fun v37 => ?_)
              refine r_istore (lv' := [(7, .int v37), (5, .long t30), (11, .long t30), (0, .ref (wA w 0)), (1, .int a2), (2, .int a3), (3, .long v6), (8, .int x9), (9, .int x19)]) hC dX11_change_143 (by decide) rfl ?_
              exact r_lv [3, 4, 5, 6, 1, 0, 7, 8] rfl (hj35 t30 v37)
        · refine r_if_eq hC 112 dX11_change_105 (by decide) (fun c38 => ?_) (fun c38 => ?_)
          · refine r_aload_n hC dX11_change_112 rfl 1 rfl ?_
            refine r_iload_n hC dX11_change_113 rfl 2 rfl ?_
            refine r_iload hC dX11_change_114 7 rfl ?_
            refine r_iload hC dX11_change_116 8 rfl ?_
            refine r_callVL hC (b := 0) (ci := 11) (st := []) [.int a2, .int x9, .int x19] rfl (hC.n rfl) rfl rfl (c_X11_wayIfChanged hC.w hnc σ20 a2 x9 x19) yk_X11_wayIfChanged lm_X11_220 rfl ⟨rfl, rfl⟩ rfl dX11_change_118 (fun v39 σ40 => ?_)
            exact r_lv [1, 2, 3, 4, 5, 6, 7, 8] rfl (hj32 v39 σ40)
          · refine r_lload_n hC dX11_change_108 rfl 4 rfl ?_
            refine r_goto hC 121 dX11_change_109 (by decide) ?_
            exact r_lv [1, 2, 3, 4, 5, 6, 7, 8] rfl (hj32 v6 σ20)
      · refine r_jn (T := fun (j41 : Option (Int64 × St)) => RF X w (Aw w (xs_ X).heap.size) 13 (QL X w) j41 100 [(0, .ref (wA w 0)), (1, .int a2), (2, .int a3), (3, .long v6), (5, .long x17), (7, .int x18), (8, .int x9), (9, .int x19)] [] σ20) ?_ (fun j41 hj41 => ?_)
        · refine r_iconst (v := 0) hC dX11_change_100 (by decide) ?_
          exact r_lv [0, 1, 2, 3, 4, 5, 6, 7] rfl (hj29 0)
        · refine r_icmp_ne hC 100 dX11_change_79 (by decide) (fun c42 => ?_) (fun c42 => ?_)
          · exact r_lv [0, 1, 2, 3, 4, 5, 6, 7] rfl hj41
          · refine r_aload_n hC dX11_change_82 rfl 0 rfl ?_
            refine r_getR hC clX11 0 1 6 rfl rfl rfl (hC.n rfl) rfl lf_X11_19 dX11_change_83 ?_
            refine r_getR hC clX0 6 0 7 rfl rfl rfl (hC.n rfl) rfl lf_X11_224 dX11_change_86 ?_
            refine r_iload hC dX11_change_89 7 rfl ?_
            refine r_gd (fun g43 => ?_)
            refine r_iald hC 7 8 rfl rfl g43 dX11_change_91 ?_
            refine r_nmI (fun v44 => ?_)
            refine r_iconst (v := (-1)) hC dX11_change_92 (by decide) ?_
            refine r_icmp_ne hC 100 dX11_change_93 (by decide) (fun c45 => ?_) (fun c45 => ?_)
            · exact r_lv [0, 1, 2, 3, 4, 5, 6, 7] rfl hj41
            · refine r_iconst (v := 1) hC dX11_change_96 (by decide) ?_
              refine r_goto hC 101 dX11_change_97 (by decide) ?_
              exact r_lv [0, 1, 2, 3, 4, 5, 6, 7] rfl (hj29 1)
set_option maxHeartbeats 4000000 in
set_option maxRecDepth 100000 in
theorem w_X11_change_l48 {X : Mc} {w : Wd} (hC : Cok X w (Aw w (xs_ X).heap.size) yX11_change.cls cX11_change 13 6 149 shX rX 66) (hret : (xmeth X).sig.returnType = some .long) (a2 : Int32) (nc : Nat) (v6 : Int64) (a3 : Int32) (σ5 : St) (hnc : nc ≤ wN w)  (K14 : Int64 → Int32 → St → Option (Int64 × St)) (hK14 : ∀ (x11 : Int64) (x12 : Int32) (σ13 : St), RF X w (Aw w (xs_ X).heap.size) 13 (QL X w) (K14 x11 x12 σ13) 157 [(2, .int a3), (3, .long v6), (5, .long x11), (7, .int x12)] [] σ13) : ∀ (n : Nat) (x7 : Int64) (x8 : Int32) (x9 : Int32) (σ10 : St), RF X w (Aw w (xs_ X).heap.size) 13 (QL X w) (f_X11_change_l48 a2 nc v6 K14 n x7 x8 x9 σ10) 48 [(0, .ref (wA w 0)), (1, .int a2), (2, .int a3), (3, .long v6), (5, .long x7), (7, .int x8), (8, .int x9)] [] σ10 := by
  intro n
  induction n with
  | zero => intro x7 x8 x9 σ10; rw [f_X11_change_l48]; exact r_none
  | succ n ih =>
    intro x7 x8 x9 σ10
    rw [f_X11_change_l48]
    refine r_iload hC dX11_change_48 6 rfl ?_
    refine r_bipush (v := 8) hC dX11_change_50 (by decide) ?_
    refine r_icmp_ge hC 157 dX11_change_52 (by decide) (fun c15 => ?_) (fun c15 => ?_)
    · exact r_lv [2, 3, 4, 5] rfl (hK14 x7 x8 σ10)
    · refine r_iload hC dX11_change_55 6 rfl ?_
      refine r_iconst (v := 1) hC dX11_change_57 (by decide) ?_
      refine r_iadd hC dX11_change_58 ?_
      refine r_nmI (fun v16 => ?_)
      refine r_istore (lv' := [(9, .int v16), (0, .ref (wA w 0)), (1, .int a2), (2, .int a3), (3, .long v6), (5, .long x7), (7, .int x8), (8, .int x9)]) hC dX11_change_59 (by decide) rfl ?_
      refine r_lv [1, 2, 3, 4, 5, 6, 7, 0] rfl ?_
      refine w_X11_change_l61 hC hret a2 nc v6 x9 a3 σ10 hnc _ ?_ FU x7 x8 v16 σ10
      · intro x21 x22 σ23
        refine r_iinc (v := x9 + 1) (lv' := [(8, .int (x9 + 1)), (0, .ref (wA w 0)), (1, .int a2), (2, .int a3), (3, .long v6), (5, .long x21), (7, .int x22)]) hC dX11_change_151 6 rfl rfl (by decide) rfl ?_
        refine r_goto hC 48 dX11_change_154 (by decide) ?_
        exact r_lv [1, 2, 3, 4, 5, 6, 0] rfl (ih x21 x22 (x9 + 1) σ23)
set_option maxHeartbeats 4000000 in
set_option maxRecDepth 100000 in
theorem c_X11_change {l : Launch} {w : Wd} (hW : HWd w shX rX 66) {nc : Nat} (hnc : nc ≤ wN w) (σ : St) (a2 : Int32) (a3 : Int32)  : ∀ res, f_X11_change nc σ a2 a3 = some res → MtL l yX11_change cX11_change 13 .long 6 149 w [.ref (wA w 0), .int a2, .int a3] σ res := by
  refine mt_L (by decide) rfl hW (fun X hl0 hC hret => ?_)
  show RF X w (Aw w (xs_ X).heap.size) 13 (QL X w) (f_X11_change nc σ a2 a3) 0 [(0, .ref (wA w 0)), (1, .int a2), (2, .int a3)] [] σ
  unfold f_X11_change
  refine r_aload_n hC dX11_change_0 rfl 0 rfl ?_
  refine r_getR hC clX11 0 11 20 rfl rfl rfl (hC.n rfl) rfl lf_X11_65 dX11_change_1 ?_
  refine r_iload_n hC dX11_change_4 rfl 1 rfl ?_
  refine r_callVP hC (b := 20) (ci := 4) (st := []) [.int a2] rfl (hC.n rfl) rfl rfl (c_X4_has hC.w σ a2) yk_X4_has lm_X11_184 rfl ⟨rfl, rfl⟩ rfl dX11_change_5 (fun v1 => ?_)
  refine r_if_eq hC 20 dX11_change_8 (by decide) (fun c2 => ?_) (fun c2 => ?_)
  · refine r_ldc2 (v := (-4611686018427387904)) hC lc_X11_191 dX11_change_20 ?_
    exact r_lret hC hret dX11_change_23
  · refine r_iload_n hC dX11_change_11 rfl 2 rfl ?_
    refine r_iconst (v := 0) hC dX11_change_12 (by decide) ?_
    refine r_iconst (v := 1) hC dX11_change_13 (by decide) ?_
    refine r_callSP hC (st := []) [.int a3, .int 0, .int 1] (c_X11_within hC.w σ a3 0 1) yk_X11_within lm_X11_99 rfl ⟨rfl, rfl⟩ rfl dX11_change_14 (fun v3 => ?_)
    refine r_if_ne hC 24 dX11_change_17 (by decide) (fun c4 => ?_) (fun c4 => ?_)
    · refine r_aload_n hC dX11_change_24 rfl 0 rfl ?_
      refine r_iload_n hC dX11_change_25 rfl 1 rfl ?_
      refine r_callVV hC (b := 0) (ci := 11) (st := []) [.int a2] rfl (hC.n rfl) rfl rfl (c_X11_rowBy hC.w hnc σ a2) yk_X11_rowBy lm_X11_193 rfl ⟨rfl, rfl⟩ rfl dX11_change_26 (fun σ5 => ?_)
      refine r_aload_n hC dX11_change_29 rfl 0 rfl ?_
      refine r_getR hC clX11 0 12 31 rfl rfl rfl (hC.n rfl) rfl lf_X11_74 dX11_change_30 ?_
      refine r_getL hC clX1 31 11 rfl rfl (hC.n rfl) rfl lf_X11_197 dX11_change_33 ?_
      refine r_nmL (fun v6 => ?_)
      refine r_lstore_n (lv' := [(3, .long v6), (0, .ref (wA w 0)), (1, .int a2), (2, .int a3)]) hC dX11_change_36 rfl (by decide) rfl ?_
      refine r_ldc2 (v := (-4611686018427387904)) hC lc_X11_191 dX11_change_37 ?_
      refine r_lstore (lv' := [(5, .long (-4611686018427387904)), (3, .long v6), (0, .ref (wA w 0)), (1, .int a2), (2, .int a3)]) hC dX11_change_40 (by decide) rfl ?_
      refine r_iconst (v := (-1)) hC dX11_change_42 (by decide) ?_
      refine r_istore (lv' := [(7, .int (-1)), (5, .long (-4611686018427387904)), (3, .long v6), (0, .ref (wA w 0)), (1, .int a2), (2, .int a3)]) hC dX11_change_43 (by decide) rfl ?_
      refine r_iconst (v := 0) hC dX11_change_45 (by decide) ?_
      refine r_istore (lv' := [(8, .int 0), (7, .int (-1)), (5, .long (-4611686018427387904)), (3, .long v6), (0, .ref (wA w 0)), (1, .int a2), (2, .int a3)]) hC dX11_change_46 (by decide) rfl ?_
      refine r_lv [4, 5, 6, 3, 2, 1, 0] rfl ?_
      refine w_X11_change_l48 hC hret a2 nc v6 a3 σ5 hnc _ ?_ FU (-4611686018427387904) (-1) 0 σ5
      · intro x11 x12 σ13
        refine r_iload_n hC dX11_change_157 rfl 0 rfl ?_
        refine r_if_ne hC 167 dX11_change_158 (by decide) (fun c46 => ?_) (fun c46 => ?_)
        · refine r_lload hC dX11_change_167 2 rfl ?_
          refine r_lload_n hC dX11_change_169 rfl 1 rfl ?_
          refine r_lsub hC dX11_change_170 ?_
          exact r_lret hC hret dX11_change_171
        · refine r_iload hC dX11_change_161 3 rfl ?_
          refine r_i2l hC dX11_change_163 ?_
          refine r_goto hC 171 dX11_change_164 (by decide) ?_
          exact r_lret hC hret dX11_change_171
    · refine r_ldc2 (v := (-4611686018427387904)) hC lc_X11_191 dX11_change_20 ?_
      exact r_lret hC hret dX11_change_23
set_option maxHeartbeats 4000000 in
set_option maxRecDepth 100000 in
theorem w_X11_order_l60 {X : Mc} {w : Wd} (hC : Cok X w (Aw w (xs_ X).heap.size) yX11_order.cls cX11_order 8 4 103 shX rX 66) (hret : (xmeth X).sig.returnType = some .long) (σ8 : St) (a2 : Int32) (nc : Nat) (hnc : nc ≤ wN w)  (K15 : Int32 → Int64 → Option (Int64 × St)) (hK15 : ∀ (x13 : Int32) (x14 : Int64), RF X w (Aw w (xs_ X).heap.size) 8 (QL X w) (K15 x13 x14) 115 [(1, .int a2), (2, .int x13), (3, .long x14)] [] σ8) : ∀ (n : Nat) (x10 : Int32) (x11 : Int64) (x12 : Int32), RF X w (Aw w (xs_ X).heap.size) 8 (QL X w) (f_X11_order_l60 σ8 K15 n x10 x11 x12) 60 [(0, .ref (wA w 0)), (1, .int a2), (2, .int x10), (3, .long x11), (5, .int x12)] [] σ8 := by
  intro n
  induction n with
  | zero => intro x10 x11 x12; rw [f_X11_order_l60]; exact r_none
  | succ n ih =>
    intro x10 x11 x12
    rw [f_X11_order_l60]
    refine r_iload hC dX11_order_60 4 rfl ?_
    refine r_sipush (v := 256) hC dX11_order_62 (by decide) ?_
    refine r_icmp_ge hC 115 dX11_order_65 (by decide) (fun c16 => ?_) (fun c16 => ?_)
    · exact r_lv [1, 2, 3] rfl (hK15 x10 x11)
    · refine r_iload hC dX11_order_68 4 rfl ?_
      refine r_callSP hC (st := []) [.int x12] (c_J6_bitCount_0f7a4 hC.w σ8 x12) yk_J6_bitCount_0f7a4 lm_X11_240 rfl ⟨rfl, rfl⟩ rfl dX11_order_70 (fun v17 => ?_)
      refine r_iconst (v := 4) hC dX11_order_73 (by decide) ?_
      refine r_jn (T := fun (j20 : Int32 → Int64 → Option (Int64 × St)) => ∀ (x18 : Int32) (x19 : Int64), RF X w (Aw w (xs_ X).heap.size) 8 (QL X w) (j20 x18 x19) 109 [(0, .ref (wA w 0)), (1, .int a2), (2, .int x18), (3, .long x19), (5, .int x12)] [] σ8) ?_ (fun j20 hj20 => ?_)
      · intro x18 x19
        refine r_iinc (v := x12 + 1) (lv' := [(5, .int (x12 + 1)), (0, .ref (wA w 0)), (1, .int a2), (2, .int x18), (3, .long x19)]) hC dX11_order_109 4 rfl rfl (by decide) rfl ?_
        refine r_goto hC 60 dX11_order_112 (by decide) ?_
        exact r_lv [1, 2, 3, 4, 0] rfl (ih x18 x19 (x12 + 1))
      · refine r_icmp_eq hC 80 dX11_order_74 (by decide) (fun c21 => ?_) (fun c21 => ?_)
        · refine r_aload_n hC dX11_order_80 rfl 0 rfl ?_
          refine r_getR hC clX11 0 12 31 rfl rfl rfl (hC.n rfl) rfl lf_X11_74 dX11_order_81 ?_
          refine r_iload hC dX11_order_84 4 rfl ?_
          refine r_callVQ hC (b := 31) (ci := 1) (st := []) [.int x12] rfl (hC.n rfl) rfl rfl (c_X1_wagsBy hC.w σ8 x12) yk_X1_wagsBy lm_X11_245 rfl ⟨rfl, rfl⟩ rfl dX11_order_86 (fun v22 => ?_)
          refine r_lstore (lv' := [(6, .long v22), (0, .ref (wA w 0)), (1, .int a2), (2, .int x10), (3, .long x11), (5, .int x12)]) hC dX11_order_89 (by decide) rfl ?_
          refine r_iload_n hC dX11_order_91 rfl 3 rfl ?_
          refine r_iconst (v := (-1)) hC dX11_order_92 (by decide) ?_
          refine r_jn (T := fun (j23 : Option (Int64 × St)) => RF X w (Aw w (xs_ X).heap.size) 8 (QL X w) j23 103 [(0, .ref (wA w 0)), (1, .int a2), (5, .int x12), (6, .long v22)] [] σ8) ?_ (fun j23 hj23 => ?_)
          · refine r_iload hC dX11_order_103 2 rfl ?_
            refine r_istore_n (lv' := [(2, .int x12), (0, .ref (wA w 0)), (1, .int a2), (5, .int x12), (6, .long v22)]) hC dX11_order_105 rfl (by decide) rfl ?_
            refine r_lload hC dX11_order_106 4 rfl ?_
            refine r_lstore_n (lv' := [(3, .long v22), (2, .int x12), (0, .ref (wA w 0)), (1, .int a2), (5, .int x12), (6, .long v22)]) hC dX11_order_108 rfl (by decide) rfl ?_
            exact r_lv [2, 3, 1, 0, 4] rfl (hj20 x12 v22)
          · refine r_icmp_eq hC 103 dX11_order_93 (by decide) (fun c24 => ?_) (fun c24 => ?_)
            · exact r_lv [1, 2, 5, 0] rfl hj23
            · refine r_lload hC dX11_order_96 0 rfl ?_
              refine r_lload_n hC dX11_order_98 rfl 4 rfl ?_
              refine r_lcmp_ge hC 109 dX11_order_99 dX11_order_100 (by decide) (fun c25 => ?_) (fun c25 => ?_)
              · exact r_lv [1, 2, 3, 4, 5] rfl (hj20 x10 x11)
              · exact r_lv [1, 2, 5, 0] rfl hj23
        · refine r_goto hC 109 dX11_order_77 (by decide) ?_
          exact r_lv [0, 1, 2, 3, 4] rfl (hj20 x10 x11)
set_option maxHeartbeats 4000000 in
set_option maxRecDepth 100000 in
theorem c_X11_order {l : Launch} {w : Wd} (hW : HWd w shX rX 66) {nc : Nat} (hnc : nc ≤ wN w) (σ : St) (a2 : Int32)  : ∀ res, f_X11_order nc σ a2 = some res → MtL l yX11_order cX11_order 8 .long 4 103 w [.ref (wA w 0), .int a2] σ res := by
  refine mt_L (by decide) rfl hW (fun X hl0 hC hret => ?_)
  show RF X w (Aw w (xs_ X).heap.size) 8 (QL X w) (f_X11_order nc σ a2) 0 [(0, .ref (wA w 0)), (1, .int a2)] [] σ
  unfold f_X11_order
  refine r_iload_n hC dX11_order_0 rfl 1 rfl ?_
  refine r_iconst (v := 0) hC dX11_order_1 (by decide) ?_
  refine r_iconst (v := 2) hC dX11_order_2 (by decide) ?_
  refine r_callSP hC (st := []) [.int a2, .int 0, .int 2] (c_X11_within hC.w σ a2 0 2) yk_X11_within lm_X11_99 rfl ⟨rfl, rfl⟩ rfl dX11_order_3 (fun v1 => ?_)
  refine r_if_ne hC 13 dX11_order_6 (by decide) (fun c2 => ?_) (fun c2 => ?_)
  · refine r_aload_n hC dX11_order_13 rfl 0 rfl ?_
    refine r_getR hC clX11 0 12 31 rfl rfl rfl (hC.n rfl) rfl lf_X11_74 dX11_order_14 ?_
    refine r_aload_n hC dX11_order_17 rfl 0 rfl ?_
    refine r_getR hC clX11 0 8 19 rfl rfl rfl (hC.n rfl) rfl lf_X11_52 dX11_order_18 ?_
    refine r_aload_n hC dX11_order_21 rfl 0 rfl ?_
    refine r_getI hC clX11 0 10 rfl rfl (hC.n rfl) rfl lf_X11_173 dX11_order_22 ?_
    refine r_nmI (fun v3 => ?_)
    refine r_gd (fun g4 => ?_)
    refine r_aaldR hC 19 6 rfl rfl g4 rfl dX11_order_25 ?_
    refine r_mo ?_ (fun c5 => ?_)
    · exact r_none
    · refine r_gd (fun g6 => ?_)
      refine r_callVV hC (b := 31) (ci := 1) (st := []) [.ref (wA w c5)] rfl (hC.n rfl) rfl rfl (c_X1_begin hC.w σ c5) yk_X1_begin lm_X11_227 rfl ⟨rfl, rfl⟩ rfl dX11_order_26 (fun σ7 => ?_)
      refine r_aload_n hC dX11_order_29 rfl 0 rfl ?_
      refine r_getR hC clX11 0 12 31 rfl rfl rfl (hC.n rfl) rfl lf_X11_74 dX11_order_30 ?_
      refine r_iconst (v := 0) hC dX11_order_33 (by decide) ?_
      refine r_callVV hC (b := 31) (ci := 1) (st := []) [.int 0] rfl (hC.n rfl) rfl rfl (c_X1_pullOnce hC.w hnc σ7 0) yk_X1_pullOnce lm_X11_231 rfl ⟨rfl, rfl⟩ rfl dX11_order_34 (fun σ8 => ?_)
      refine r_iload_n hC dX11_order_37 rfl 1 rfl ?_
      refine r_iconst (v := 2) hC dX11_order_38 (by decide) ?_
      refine r_icmp_ne hC 53 dX11_order_39 (by decide) (fun c9 => ?_) (fun c9 => ?_)
      · refine r_iconst (v := (-1)) hC dX11_order_53 (by decide) ?_
        refine r_istore_n (lv' := [(2, .int (-1)), (0, .ref (wA w 0)), (1, .int a2)]) hC dX11_order_54 rfl (by decide) rfl ?_
        refine r_lconst (v := 0) hC dX11_order_55 (by decide) ?_
        refine r_lstore_n (lv' := [(3, .long 0), (2, .int (-1)), (0, .ref (wA w 0)), (1, .int a2)]) hC dX11_order_56 rfl (by decide) rfl ?_
        refine r_iconst (v := 0) hC dX11_order_57 (by decide) ?_
        refine r_istore (lv' := [(5, .int 0), (3, .long 0), (2, .int (-1)), (0, .ref (wA w 0)), (1, .int a2)]) hC dX11_order_58 (by decide) rfl ?_
        refine r_lv [3, 4, 2, 1, 0] rfl ?_
        refine w_X11_order_l60 hC hret σ8 a2 nc hnc _ ?_ FU (-1) 0 0
        · intro x13 x14
          refine r_iload_n hC dX11_order_115 rfl 0 rfl ?_
          refine r_if_ne hC 124 dX11_order_116 (by decide) (fun c26 => ?_) (fun c26 => ?_)
          · refine r_lload_n hC dX11_order_124 rfl 2 rfl ?_
            exact r_lret hC hret dX11_order_125
          · refine r_iload_n hC dX11_order_119 rfl 1 rfl ?_
            refine r_i2l hC dX11_order_120 ?_
            refine r_goto hC 125 dX11_order_121 (by decide) ?_
            exact r_lret hC hret dX11_order_125
      · refine r_aload_n hC dX11_order_42 rfl 0 rfl ?_
        refine r_getR hC clX11 0 12 31 rfl rfl rfl (hC.n rfl) rfl lf_X11_74 dX11_order_43 ?_
        refine r_getL hC clX1 31 12 rfl rfl (hC.n rfl) rfl lf_X11_204 dX11_order_46 ?_
        refine r_nmL (fun v27 => ?_)
        refine r_mabsL hC (by decide) (Nat.le_of_ble_eq_true rfl) lm_X11_234 ws_mabsL wi_math wc_mabsL dX11_order_49 ?_
        refine r_nmL (fun v28 => ?_)
        exact r_lret hC hret dX11_order_52
  · refine r_ldc2 (v := (-4611686018427387904)) hC lc_X11_191 dX11_order_9 ?_
    exact r_lret hC hret dX11_order_12
set_option maxHeartbeats 4000000 in
set_option maxRecDepth 100000 in
theorem w_X11_spurts_l43 {X : Mc} {w : Wd} (hC : Cok X w (Aw w (xs_ X).heap.size) yX11_spurts.cls cX11_spurts 8 5 126 shX rX 66) (hret : (xmeth X).sig.returnType = some .long) (a2 : Int32) (a3 : Int32) (nc : Nat) (σ : St) (a4 : Int32) (hnc : nc ≤ wN w)  (K14 : Int32 → Int64 → St → Option (Int64 × St)) (hK14 : ∀ (x11 : Int32) (x12 : Int64) (σ13 : St), RF X w (Aw w (xs_ X).heap.size) 8 (QL X w) (K14 x11 x12 σ13) 132 [(3, .int a4), (4, .int x11), (5, .long x12)] [] σ13) : ∀ (n : Nat) (x7 : Int32) (x8 : Int64) (x9 : Int32) (σ10 : St), RF X w (Aw w (xs_ X).heap.size) 8 (QL X w) (f_X11_spurts_l43 a2 a3 nc K14 n x7 x8 x9 σ10) 43 [(0, .ref (wA w 0)), (1, .int a2), (2, .int a3), (3, .int a4), (4, .int x7), (5, .long x8), (7, .int x9)] [] σ10 := by
  intro n
  induction n with
  | zero => intro x7 x8 x9 σ10; rw [f_X11_spurts_l43]; exact r_none
  | succ n ih =>
    intro x7 x8 x9 σ10
    rw [f_X11_spurts_l43]
    refine r_iload hC dX11_spurts_43 6 rfl ?_
    refine r_iload_n hC dX11_spurts_45 rfl 1 rfl ?_
    refine r_iload_n hC dX11_spurts_46 rfl 2 rfl ?_
    refine r_isub hC dX11_spurts_47 ?_
    refine r_icmp_gt hC 132 dX11_spurts_48 (by decide) (fun c15 => ?_) (fun c15 => ?_)
    · exact r_lv [3, 4, 5] rfl (hK14 x7 x8 σ10)
    · refine r_aload_n hC dX11_spurts_51 rfl 0 rfl ?_
      refine r_getR hC clX11 0 12 31 rfl rfl rfl (hC.n rfl) rfl lf_X11_74 dX11_spurts_52 ?_
      refine r_aload_n hC dX11_spurts_55 rfl 0 rfl ?_
      refine r_getR hC clX11 0 8 19 rfl rfl rfl (hC.n rfl) rfl lf_X11_52 dX11_spurts_56 ?_
      refine r_aload_n hC dX11_spurts_59 rfl 0 rfl ?_
      refine r_getI hC clX11 0 10 rfl rfl (hC.n rfl) rfl lf_X11_173 dX11_spurts_60 ?_
      refine r_nmI (fun v16 => ?_)
      refine r_gd (fun g17 => ?_)
      refine r_aaldR hC 19 6 rfl rfl g17 rfl dX11_spurts_63 ?_
      refine r_mo ?_ (fun c18 => ?_)
      · exact r_none
      · refine r_gd (fun g19 => ?_)
        refine r_callVV hC (b := 31) (ci := 1) (st := []) [.ref (wA w c18)] rfl (hC.n rfl) rfl rfl (c_X1_begin hC.w σ10 c18) yk_X1_begin lm_X11_227 rfl ⟨rfl, rfl⟩ rfl dX11_spurts_64 (fun σ20 => ?_)
        refine r_aload_n hC dX11_spurts_67 rfl 0 rfl ?_
        refine r_getR hC clX11 0 12 31 rfl rfl rfl (hC.n rfl) rfl lf_X11_74 dX11_spurts_68 ?_
        refine r_iconst (v := 1) hC dX11_spurts_71 (by decide) ?_
        refine r_iload_n hC dX11_spurts_72 rfl 2 rfl ?_
        refine r_callVV hC (b := 31) (ci := 1) (st := []) [.int 1, .int a3] rfl (hC.n rfl) rfl rfl (c_X1_pullMany hC.w hnc σ20 1 a3) yk_X1_pullMany lm_X11_249 rfl ⟨rfl, rfl⟩ rfl dX11_spurts_73 (fun σ21 => ?_)
        refine r_aload_n hC dX11_spurts_76 rfl 0 rfl ?_
        refine r_getR hC clX11 0 12 31 rfl rfl rfl (hC.n rfl) rfl lf_X11_74 dX11_spurts_77 ?_
        refine r_iconst (v := 0) hC dX11_spurts_80 (by decide) ?_
        refine r_iload_n hC dX11_spurts_81 rfl 1 rfl ?_
        refine r_iload_n hC dX11_spurts_82 rfl 2 rfl ?_
        refine r_isub hC dX11_spurts_83 ?_
        refine r_iload hC dX11_spurts_84 6 rfl ?_
        refine r_isub hC dX11_spurts_86 ?_
        refine r_callVV hC (b := 31) (ci := 1) (st := []) [.int 0, .int ((a2 - a3) - x9)] rfl (hC.n rfl) rfl rfl (c_X1_pullMany hC.w hnc σ21 0 ((a2 - a3) - x9)) yk_X1_pullMany lm_X11_249 rfl ⟨rfl, rfl⟩ rfl dX11_spurts_87 (fun σ22 => ?_)
        refine r_aload_n hC dX11_spurts_90 rfl 0 rfl ?_
        refine r_getR hC clX11 0 12 31 rfl rfl rfl (hC.n rfl) rfl lf_X11_74 dX11_spurts_91 ?_
        refine r_iconst (v := 2) hC dX11_spurts_94 (by decide) ?_
        refine r_iload hC dX11_spurts_95 6 rfl ?_
        refine r_callVV hC (b := 31) (ci := 1) (st := []) [.int 2, .int x9] rfl (hC.n rfl) rfl rfl (c_X1_pullMany hC.w hnc σ22 2 x9) yk_X1_pullMany lm_X11_249 rfl ⟨rfl, rfl⟩ rfl dX11_spurts_97 (fun σ23 => ?_)
        refine r_aload_n hC dX11_spurts_100 rfl 0 rfl ?_
        refine r_getR hC clX11 0 12 31 rfl rfl rfl (hC.n rfl) rfl lf_X11_74 dX11_spurts_101 ?_
        refine r_getL hC clX1 31 11 rfl rfl (hC.n rfl) rfl lf_X11_197 dX11_spurts_104 ?_
        refine r_nmL (fun v24 => ?_)
        refine r_lload hC dX11_spurts_107 5 rfl ?_
        refine r_jn (T := fun (j27 : Int32 → Int64 → Option (Int64 × St)) => ∀ (x25 : Int32) (x26 : Int64), RF X w (Aw w (xs_ X).heap.size) 8 (QL X w) (j27 x25 x26) 126 [(0, .ref (wA w 0)), (1, .int a2), (2, .int a3), (3, .int a4), (4, .int x25), (5, .long x26), (7, .int x9)] [] σ23) ?_ (fun j27 hj27 => ?_)
        · intro x25 x26
          refine r_iinc (v := x9 + 1) (lv' := [(7, .int (x9 + 1)), (0, .ref (wA w 0)), (1, .int a2), (2, .int a3), (3, .int a4), (4, .int x25), (5, .long x26)]) hC dX11_spurts_126 6 rfl rfl (by decide) rfl ?_
          refine r_goto hC 43 dX11_spurts_129 (by decide) ?_
          exact r_lv [1, 2, 3, 4, 5, 6, 0] rfl (ih x25 x26 (x9 + 1) σ23)
        · refine r_lcmp_le hC 126 dX11_spurts_109 dX11_spurts_110 (by decide) (fun c28 => ?_) (fun c28 => ?_)
          · exact r_lv [0, 1, 2, 3, 4, 5, 6] rfl (hj27 x7 x8)
          · refine r_aload_n hC dX11_spurts_113 rfl 0 rfl ?_
            refine r_getR hC clX11 0 12 31 rfl rfl rfl (hC.n rfl) rfl lf_X11_74 dX11_spurts_114 ?_
            refine r_getL hC clX1 31 11 rfl rfl (hC.n rfl) rfl lf_X11_197 dX11_spurts_117 ?_
            refine r_nmL (fun v29 => ?_)
            refine r_lstore (lv' := [(5, .long v29), (0, .ref (wA w 0)), (1, .int a2), (2, .int a3), (3, .int a4), (4, .int x7), (7, .int x9)]) hC dX11_spurts_120 (by decide) rfl ?_
            refine r_iload hC dX11_spurts_122 6 rfl ?_
            refine r_istore (lv' := [(4, .int x9), (5, .long v29), (0, .ref (wA w 0)), (1, .int a2), (2, .int a3), (3, .int a4), (7, .int x9)]) hC dX11_spurts_124 (by decide) rfl ?_
            exact r_lv [2, 3, 4, 5, 0, 1, 6] rfl (hj27 x9 v29)
set_option maxHeartbeats 4000000 in
set_option maxRecDepth 100000 in
theorem c_X11_spurts {l : Launch} {w : Wd} (hW : HWd w shX rX 66) {nc : Nat} (hnc : nc ≤ wN w) (σ : St) (a2 : Int32) (a3 : Int32) (a4 : Int32)  : ∀ res, f_X11_spurts nc σ a2 a3 a4 = some res → MtL l yX11_spurts cX11_spurts 8 .long 5 126 w [.ref (wA w 0), .int a2, .int a3, .int a4] σ res := by
  refine mt_L (by decide) rfl hW (fun X hl0 hC hret => ?_)
  show RF X w (Aw w (xs_ X).heap.size) 8 (QL X w) (f_X11_spurts nc σ a2 a3 a4) 0 [(0, .ref (wA w 0)), (1, .int a2), (2, .int a3), (3, .int a4)] [] σ
  unfold f_X11_spurts
  refine r_iload_n hC dX11_spurts_0 rfl 1 rfl ?_
  refine r_iconst (v := 1) hC dX11_spurts_1 (by decide) ?_
  refine r_bipush (v := 60) hC dX11_spurts_2 (by decide) ?_
  refine r_callSP hC (st := []) [.int a2, .int 1, .int 60] (c_X11_within hC.w σ a2 1 60) yk_X11_within lm_X11_99 rfl ⟨rfl, rfl⟩ rfl dX11_spurts_4 (fun v1 => ?_)
  refine r_if_eq hC 28 dX11_spurts_7 (by decide) (fun c2 => ?_) (fun c2 => ?_)
  · refine r_ldc2 (v := (-4611686018427387904)) hC lc_X11_191 dX11_spurts_28 ?_
    exact r_lret hC hret dX11_spurts_31
  · refine r_iload_n hC dX11_spurts_10 rfl 2 rfl ?_
    refine r_iconst (v := 0) hC dX11_spurts_11 (by decide) ?_
    refine r_iload_n hC dX11_spurts_12 rfl 1 rfl ?_
    refine r_callSP hC (st := []) [.int a3, .int 0, .int a2] (c_X11_within hC.w σ a3 0 a2) yk_X11_within lm_X11_99 rfl ⟨rfl, rfl⟩ rfl dX11_spurts_13 (fun v3 => ?_)
    refine r_if_eq hC 28 dX11_spurts_16 (by decide) (fun c4 => ?_) (fun c4 => ?_)
    · refine r_ldc2 (v := (-4611686018427387904)) hC lc_X11_191 dX11_spurts_28 ?_
      exact r_lret hC hret dX11_spurts_31
    · refine r_iload_n hC dX11_spurts_19 rfl 3 rfl ?_
      refine r_iconst (v := 0) hC dX11_spurts_20 (by decide) ?_
      refine r_iconst (v := 1) hC dX11_spurts_21 (by decide) ?_
      refine r_callSP hC (st := []) [.int a4, .int 0, .int 1] (c_X11_within hC.w σ a4 0 1) yk_X11_within lm_X11_99 rfl ⟨rfl, rfl⟩ rfl dX11_spurts_22 (fun v5 => ?_)
      refine r_if_ne hC 32 dX11_spurts_25 (by decide) (fun c6 => ?_) (fun c6 => ?_)
      · refine r_iconst (v := (-1)) hC dX11_spurts_32 (by decide) ?_
        refine r_istore (lv' := [(4, .int (-1)), (0, .ref (wA w 0)), (1, .int a2), (2, .int a3), (3, .int a4)]) hC dX11_spurts_33 (by decide) rfl ?_
        refine r_ldc2 (v := (-4611686018427387904)) hC lc_X11_191 dX11_spurts_35 ?_
        refine r_lstore (lv' := [(5, .long (-4611686018427387904)), (4, .int (-1)), (0, .ref (wA w 0)), (1, .int a2), (2, .int a3), (3, .int a4)]) hC dX11_spurts_38 (by decide) rfl ?_
        refine r_iconst (v := 0) hC dX11_spurts_40 (by decide) ?_
        refine r_istore (lv' := [(7, .int 0), (5, .long (-4611686018427387904)), (4, .int (-1)), (0, .ref (wA w 0)), (1, .int a2), (2, .int a3), (3, .int a4)]) hC dX11_spurts_41 (by decide) rfl ?_
        refine r_lv [3, 4, 5, 6, 2, 1, 0] rfl ?_
        refine w_X11_spurts_l43 hC hret a2 a3 nc σ a4 hnc _ ?_ FU (-1) (-4611686018427387904) 0 σ
        · intro x11 x12 σ13
          refine r_iload_n hC dX11_spurts_132 rfl 0 rfl ?_
          refine r_if_ne hC 142 dX11_spurts_133 (by decide) (fun c30 => ?_) (fun c30 => ?_)
          · refine r_lload hC dX11_spurts_142 2 rfl ?_
            exact r_lret hC hret dX11_spurts_144
          · refine r_iload hC dX11_spurts_136 1 rfl ?_
            refine r_i2l hC dX11_spurts_138 ?_
            refine r_goto hC 144 dX11_spurts_139 (by decide) ?_
            exact r_lret hC hret dX11_spurts_144
      · refine r_ldc2 (v := (-4611686018427387904)) hC lc_X11_191 dX11_spurts_28 ?_
        exact r_lret hC hret dX11_spurts_31
set_option maxHeartbeats 4000000 in
set_option maxRecDepth 100000 in
theorem c_X11_piece {l : Launch} {w : Wd} (hW : HWd w shX rX 66) (σ : St) (a2 : Int32) (a3 : Int32) (a4 : Int32) (a5 : Int32)  : ∀ res, f_X11_piece σ a2 a3 a4 a5 = some res → MtI l yX11_piece cX11_piece 6 .int 1 24 w [.ref (wA w 0), .int a2, .int a3, .int a4, .int a5] σ res := by
  refine mt_I (by decide) rfl hW (fun X hl0 hC hret => ?_)
  show RF X w (Aw w (xs_ X).heap.size) 6 (QI X w) (f_X11_piece σ a2 a3 a4 a5) 0 [(0, .ref (wA w 0)), (1, .int a2), (2, .int a3), (3, .int a4), (4, .int a5)] [] σ
  unfold f_X11_piece
  refine r_aload_n hC dX11_piece_0 rfl 0 rfl ?_
  refine r_getR hC clX11 0 0 1 rfl rfl rfl (hC.n rfl) rfl lf_X11_10 dX11_piece_1 ?_
  refine r_iload_n hC dX11_piece_4 rfl 1 rfl ?_
  refine r_callVP hC (b := 1) (ci := 2) (st := []) [.int a2] rfl (hC.n rfl) rfl rfl (c_X2_has hC.w σ a2) yk_X2_has lm_X11_107 rfl ⟨rfl, rfl⟩ rfl dX11_piece_5 (fun v1 => ?_)
  refine r_jn (T := fun (j3 : Int32 → Option (Int32 × St)) => ∀ (t2 : Int32), RF X w (Aw w (xs_ X).heap.size) 6 (QI X w) (j3 t2) 57 [(0, .ref (wA w 0)), (1, .int a2), (2, .int a3), (3, .int a4), (4, .int a5)] [.int t2] σ) ?_ (fun j3 hj3 => ?_)
  · intro t2
    refine r_istore (lv' := [(5, .int t2), (0, .ref (wA w 0)), (1, .int a2), (2, .int a3), (3, .int a4), (4, .int a5)]) hC dX11_piece_57 (by decide) rfl ?_
    refine r_iload hC dX11_piece_59 0 rfl ?_
    refine r_if_ne hC 67 dX11_piece_61 (by decide) (fun c4 => ?_) (fun c4 => ?_)
    · refine r_aload_n hC dX11_piece_67 rfl 1 rfl ?_
      refine r_getR hC clX11 0 13 37 rfl rfl rfl (hC.n rfl) rfl lf_X11_81 dX11_piece_68 ?_
      refine r_iload_n hC dX11_piece_71 rfl 2 rfl ?_
      refine r_iload_n hC dX11_piece_72 rfl 3 rfl ?_
      refine r_iload_n hC dX11_piece_73 rfl 4 rfl ?_
      refine r_iload hC dX11_piece_74 5 rfl ?_
      refine r_callVI hC (b := 37) (ci := 10) (st := []) [.int a2, .int a3, .int a4, .int a5] rfl (hC.n rfl) rfl rfl (c_X10_add hC.w σ a2 a3 a4 a5) yk_X10_add lm_X11_253 rfl ⟨rfl, rfl⟩ rfl dX11_piece_76 (fun v5 σ6 => ?_)
      exact r_iret hC hret rfl dX11_piece_79
    · refine r_bipush (v := (-2)) hC dX11_piece_64 (by decide) ?_
      exact r_iret hC hret rfl dX11_piece_66
  · refine r_jn (T := fun (j7 : Option (Int32 × St)) => RF X w (Aw w (xs_ X).heap.size) 6 (QI X w) j7 56 [(0, .ref (wA w 0)), (1, .int a2), (2, .int a3), (3, .int a4), (4, .int a5)] [] σ) ?_ (fun j7 hj7 => ?_)
    · refine r_iconst (v := 0) hC dX11_piece_56 (by decide) ?_
      exact r_lv [0, 1, 2, 3, 4] rfl (hj3 0)
    · refine r_if_eq hC 56 dX11_piece_8 (by decide) (fun c8 => ?_) (fun c8 => ?_)
      · exact r_lv [0, 1, 2, 3, 4] rfl hj7
      · refine r_aload_n hC dX11_piece_11 rfl 0 rfl ?_
        refine r_getR hC clX11 0 0 1 rfl rfl rfl (hC.n rfl) rfl lf_X11_10 dX11_piece_12 ?_
        refine r_iload_n hC dX11_piece_15 rfl 2 rfl ?_
        refine r_callVP hC (b := 1) (ci := 2) (st := []) [.int a3] rfl (hC.n rfl) rfl rfl (c_X2_has hC.w σ a3) yk_X2_has lm_X11_107 rfl ⟨rfl, rfl⟩ rfl dX11_piece_16 (fun v9 => ?_)
        refine r_if_eq hC 56 dX11_piece_19 (by decide) (fun c10 => ?_) (fun c10 => ?_)
        · exact r_lv [0, 1, 2, 3, 4] rfl hj7
        · refine r_iload_n hC dX11_piece_22 rfl 1 rfl ?_
          refine r_iload_n hC dX11_piece_23 rfl 2 rfl ?_
          refine r_icmp_eq hC 56 dX11_piece_24 (by decide) (fun c11 => ?_) (fun c11 => ?_)
          · exact r_lv [0, 1, 2, 3, 4] rfl hj7
          · refine r_iload_n hC dX11_piece_27 rfl 3 rfl ?_
            refine r_sipush (v := (-9999)) hC dX11_piece_28 (by decide) ?_
            refine r_sipush (v := 9999) hC dX11_piece_31 (by decide) ?_
            refine r_callSP hC (st := []) [.int a4, .int (-9999), .int 9999] (c_X11_within hC.w σ a4 (-9999) 9999) yk_X11_within lm_X11_99 rfl ⟨rfl, rfl⟩ rfl dX11_piece_34 (fun v12 => ?_)
            refine r_if_eq hC 56 dX11_piece_37 (by decide) (fun c13 => ?_) (fun c13 => ?_)
            · exact r_lv [0, 1, 2, 3, 4] rfl hj7
            · refine r_iload hC dX11_piece_40 4 rfl ?_
              refine r_iconst (v := 0) hC dX11_piece_42 (by decide) ?_
              refine r_sipush (v := 999) hC dX11_piece_43 (by decide) ?_
              refine r_callSP hC (st := []) [.int a5, .int 0, .int 999] (c_X11_within hC.w σ a5 0 999) yk_X11_within lm_X11_99 rfl ⟨rfl, rfl⟩ rfl dX11_piece_46 (fun v14 => ?_)
              refine r_if_eq hC 56 dX11_piece_49 (by decide) (fun c15 => ?_) (fun c15 => ?_)
              · exact r_lv [0, 1, 2, 3, 4] rfl hj7
              · refine r_iconst (v := 1) hC dX11_piece_52 (by decide) ?_
                refine r_goto hC 57 dX11_piece_53 (by decide) ?_
                exact r_lv [0, 1, 2, 3, 4] rfl (hj3 1)
set_option maxHeartbeats 4000000 in
set_option maxRecDepth 100000 in
theorem c_X11_worth {l : Launch} {w : Wd} (hW : HWd w shX rX 66) (σ : St) (a2 : Int32) (a3 : Int32) (a4 : Int32) (a5 : Int32)  : ∀ res, f_X11_worth σ a2 a3 a4 a5 = some res → MtL l yX11_worth cX11_worth 6 .long 5 116 w [.ref (wA w 0), .int a2, .int a3, .int a4, .int a5] σ res := by
  refine mt_L (by decide) rfl hW (fun X hl0 hC hret => ?_)
  show RF X w (Aw w (xs_ X).heap.size) 6 (QL X w) (f_X11_worth σ a2 a3 a4 a5) 0 [(0, .ref (wA w 0)), (1, .int a2), (2, .int a3), (3, .int a4), (4, .int a5)] [] σ
  unfold f_X11_worth
  refine r_aload_n hC dX11_worth_0 rfl 0 rfl ?_
  refine r_getR hC clX11 0 0 1 rfl rfl rfl (hC.n rfl) rfl lf_X11_10 dX11_worth_1 ?_
  refine r_iload_n hC dX11_worth_4 rfl 1 rfl ?_
  refine r_callVP hC (b := 1) (ci := 2) (st := []) [.int a2] rfl (hC.n rfl) rfl rfl (c_X2_has hC.w σ a2) yk_X2_has lm_X11_107 rfl ⟨rfl, rfl⟩ rfl dX11_worth_5 (fun v1 => ?_)
  refine r_jn (T := fun (j3 : Int32 → Option (Int64 × St)) => ∀ (t2 : Int32), RF X w (Aw w (xs_ X).heap.size) 6 (QL X w) (j3 t2) 53 [(0, .ref (wA w 0)), (1, .int a2), (2, .int a3), (3, .int a4), (4, .int a5)] [.int t2] σ) ?_ (fun j3 hj3 => ?_)
  · intro t2
    refine r_istore (lv' := [(5, .int t2), (0, .ref (wA w 0)), (1, .int a2), (2, .int a3), (3, .int a4), (4, .int a5)]) hC dX11_worth_53 (by decide) rfl ?_
    refine r_iload hC dX11_worth_55 0 rfl ?_
    refine r_if_ne hC 64 dX11_worth_57 (by decide) (fun c4 => ?_) (fun c4 => ?_)
    · refine r_aload_n hC dX11_worth_64 rfl 1 rfl ?_
      refine r_getR hC clX11 0 13 37 rfl rfl rfl (hC.n rfl) rfl lf_X11_81 dX11_worth_65 ?_
      refine r_iload_n hC dX11_worth_68 rfl 4 rfl ?_
      refine r_callVI hC (b := 37) (ci := 10) (st := []) [.int a4] rfl (hC.n rfl) rfl rfl (c_X10_keepAll hC.w σ a4) yk_X10_keepAll lm_X11_257 rfl ⟨rfl, rfl⟩ rfl dX11_worth_69 (fun v5 σ6 => ?_)
      refine r_if_ne hC 79 dX11_worth_72 (by decide) (fun c7 => ?_) (fun c7 => ?_)
      · refine r_iload hC dX11_worth_79 5 rfl ?_
        refine r_if_ne hC 98 dX11_worth_81 (by decide) (fun c8 => ?_) (fun c8 => ?_)
        · refine r_aload_n hC dX11_worth_98 rfl 1 rfl ?_
          refine r_getR hC clX11 0 13 37 rfl rfl rfl (hC.n rfl) rfl lf_X11_81 dX11_worth_99 ?_
          refine r_iload_n hC dX11_worth_102 rfl 2 rfl ?_
          refine r_iload_n hC dX11_worth_103 rfl 3 rfl ?_
          refine r_callVP hC (b := 37) (ci := 10) (st := []) [.int a2, .int a3] rfl (hC.n rfl) rfl rfl (c_X10_mostOf hC.w σ6 a2 a3) yk_X10_mostOf lm_X11_262 rfl ⟨rfl, rfl⟩ rfl dX11_worth_104 (fun v9 => ?_)
          refine r_i2l hC dX11_worth_107 ?_
          exact r_lret hC hret dX11_worth_108
        · refine r_aload_n hC dX11_worth_84 rfl 1 rfl ?_
          refine r_getR hC clX11 0 13 37 rfl rfl rfl (hC.n rfl) rfl lf_X11_81 dX11_worth_85 ?_
          refine r_iload_n hC dX11_worth_88 rfl 3 rfl ?_
          refine r_iload_n hC dX11_worth_89 rfl 2 rfl ?_
          refine r_callVP hC (b := 37) (ci := 10) (st := []) [.int a3, .int a2] rfl (hC.n rfl) rfl rfl (c_X10_mostOf hC.w σ6 a3 a2) yk_X10_mostOf lm_X11_262 rfl ⟨rfl, rfl⟩ rfl dX11_worth_90 (fun v10 => ?_)
          refine r_ineg hC dX11_worth_93 ?_
          refine r_i2l hC dX11_worth_94 ?_
          refine r_goto hC 108 dX11_worth_95 (by decide) ?_
          exact r_lret hC hret dX11_worth_108
      · refine r_ldc2 (v := (-3)) hC lc_X11_260 dX11_worth_75 ?_
        exact r_lret hC hret dX11_worth_78
    · refine r_ldc2 (v := (-4611686018427387904)) hC lc_X11_191 dX11_worth_60 ?_
      exact r_lret hC hret dX11_worth_63
  · refine r_jn (T := fun (j11 : Option (Int64 × St)) => RF X w (Aw w (xs_ X).heap.size) 6 (QL X w) j11 52 [(0, .ref (wA w 0)), (1, .int a2), (2, .int a3), (3, .int a4), (4, .int a5)] [] σ) ?_ (fun j11 hj11 => ?_)
    · refine r_iconst (v := 0) hC dX11_worth_52 (by decide) ?_
      exact r_lv [0, 1, 2, 3, 4] rfl (hj3 0)
    · refine r_if_eq hC 52 dX11_worth_8 (by decide) (fun c12 => ?_) (fun c12 => ?_)
      · exact r_lv [0, 1, 2, 3, 4] rfl hj11
      · refine r_aload_n hC dX11_worth_11 rfl 0 rfl ?_
        refine r_getR hC clX11 0 0 1 rfl rfl rfl (hC.n rfl) rfl lf_X11_10 dX11_worth_12 ?_
        refine r_iload_n hC dX11_worth_15 rfl 2 rfl ?_
        refine r_callVP hC (b := 1) (ci := 2) (st := []) [.int a3] rfl (hC.n rfl) rfl rfl (c_X2_has hC.w σ a3) yk_X2_has lm_X11_107 rfl ⟨rfl, rfl⟩ rfl dX11_worth_16 (fun v13 => ?_)
        refine r_if_eq hC 52 dX11_worth_19 (by decide) (fun c14 => ?_) (fun c14 => ?_)
        · exact r_lv [0, 1, 2, 3, 4] rfl hj11
        · refine r_iload_n hC dX11_worth_22 rfl 1 rfl ?_
          refine r_iload_n hC dX11_worth_23 rfl 2 rfl ?_
          refine r_icmp_eq hC 52 dX11_worth_24 (by decide) (fun c15 => ?_) (fun c15 => ?_)
          · exact r_lv [0, 1, 2, 3, 4] rfl hj11
          · refine r_aload_n hC dX11_worth_27 rfl 0 rfl ?_
            refine r_getR hC clX11 0 13 37 rfl rfl rfl (hC.n rfl) rfl lf_X11_81 dX11_worth_28 ?_
            refine r_iload_n hC dX11_worth_31 rfl 3 rfl ?_
            refine r_callVP hC (b := 37) (ci := 10) (st := []) [.int a4] rfl (hC.n rfl) rfl rfl (c_X10_hasAll hC.w σ a4) yk_X10_hasAll lm_X11_254 rfl ⟨rfl, rfl⟩ rfl dX11_worth_32 (fun v16 => ?_)
            refine r_if_eq hC 52 dX11_worth_35 (by decide) (fun c17 => ?_) (fun c17 => ?_)
            · exact r_lv [0, 1, 2, 3, 4] rfl hj11
            · refine r_iload hC dX11_worth_38 4 rfl ?_
              refine r_iconst (v := 0) hC dX11_worth_40 (by decide) ?_
              refine r_iconst (v := 1) hC dX11_worth_41 (by decide) ?_
              refine r_callSP hC (st := []) [.int a5, .int 0, .int 1] (c_X11_within hC.w σ a5 0 1) yk_X11_within lm_X11_99 rfl ⟨rfl, rfl⟩ rfl dX11_worth_42 (fun v18 => ?_)
              refine r_if_eq hC 52 dX11_worth_45 (by decide) (fun c19 => ?_) (fun c19 => ?_)
              · exact r_lv [0, 1, 2, 3, 4] rfl hj11
              · refine r_iconst (v := 1) hC dX11_worth_48 (by decide) ?_
                refine r_goto hC 53 dX11_worth_49 (by decide) ?_
                exact r_lv [0, 1, 2, 3, 4] rfl (hj3 1)
set_option maxHeartbeats 4000000 in
set_option maxRecDepth 100000 in
theorem c_X11_go {l : Launch} {w : Wd} (hW : HWd w shX rX 66) (σ : St) (a2 : Int32)  : ∀ res, f_X11_go σ a2 = some res → MtI l yX11_go cX11_go 2 .int 70 2698 w [.ref (wA w 0), .int a2] σ res := by
  refine mt_I (by decide) rfl hW (fun X hl0 hC hret => ?_)
  show RF X w (Aw w (xs_ X).heap.size) 2 (QI X w) (f_X11_go σ a2) 0 [(0, .ref (wA w 0)), (1, .int a2)] [] σ
  unfold f_X11_go
  refine r_aload_n hC dX11_go_0 rfl 0 rfl ?_
  refine r_getR hC clX11 0 13 37 rfl rfl rfl (hC.n rfl) rfl lf_X11_81 dX11_go_1 ?_
  refine r_iload_n hC dX11_go_4 rfl 1 rfl ?_
  refine r_callVP hC (b := 37) (ci := 10) (st := []) [.int a2] rfl (hC.n rfl) rfl rfl (c_X10_hasAll hC.w σ a2) yk_X10_hasAll lm_X11_254 rfl ⟨rfl, rfl⟩ rfl dX11_go_5 (fun v1 => ?_)
  refine r_if_eq hC 18 dX11_go_8 (by decide) (fun c2 => ?_) (fun c2 => ?_)
  · refine r_bipush (v := (-2)) hC dX11_go_18 (by decide) ?_
    exact r_iret hC hret rfl dX11_go_20
  · refine r_iload_n hC dX11_go_11 rfl 1 rfl ?_
    refine r_sipush (v := 4096) hC dX11_go_12 (by decide) ?_
    refine r_icmp_lt hC 21 dX11_go_15 (by decide) (fun c3 => ?_) (fun c3 => ?_)
    · refine r_aload_n hC dX11_go_21 rfl 0 rfl ?_
      refine r_getR hC clX11 0 13 37 rfl rfl rfl (hC.n rfl) rfl lf_X11_81 dX11_go_22 ?_
      refine r_iload_n hC dX11_go_25 rfl 1 rfl ?_
      refine r_callVI hC (b := 37) (ci := 10) (st := []) [.int a2] rfl (hC.n rfl) rfl rfl (c_X10_fewestGone hC.w σ a2) yk_X10_fewestGone lm_X11_265 rfl ⟨rfl, rfl⟩ rfl dX11_go_26 (fun v4 σ5 => ?_)
      exact r_iret hC hret rfl dX11_go_29
    · refine r_bipush (v := (-2)) hC dX11_go_18 (by decide) ?_
      exact r_iret hC hret rfl dX11_go_20
set_option maxHeartbeats 4000000 in
set_option maxRecDepth 100000 in
theorem c_X11_race {l : Launch} {w : Wd} (hW : HWd w shX rX 66) (σ : St) (a2 : Int32)  : ∀ res, f_X11_race σ a2 = some res → MtI l yX11_race cX11_race 2 .int 2 82 w [.ref (wA w 0), .int a2] σ res := by
  refine mt_I (by decide) rfl hW (fun X hl0 hC hret => ?_)
  show RF X w (Aw w (xs_ X).heap.size) 2 (QI X w) (f_X11_race σ a2) 0 [(0, .ref (wA w 0)), (1, .int a2)] [] σ
  unfold f_X11_race
  refine r_aload_n hC dX11_race_0 rfl 0 rfl ?_
  refine r_getR hC clX11 0 15 58 rfl rfl rfl (hC.n rfl) rfl lf_X11_95 dX11_race_1 ?_
  refine r_iload_n hC dX11_race_4 rfl 1 rfl ?_
  refine r_callVP hC (b := 58) (ci := 7) (st := []) [.int a2] rfl (hC.n rfl) rfl rfl (c_X7_has hC.w σ a2) yk_X7_has lm_X11_268 rfl ⟨rfl, rfl⟩ rfl dX11_race_5 (fun v1 => ?_)
  refine r_if_ne hC 14 dX11_race_8 (by decide) (fun c2 => ?_) (fun c2 => ?_)
  · refine r_aload_n hC dX11_race_14 rfl 0 rfl ?_
    refine r_getR hC clX11 0 15 58 rfl rfl rfl (hC.n rfl) rfl lf_X11_95 dX11_race_15 ?_
    refine r_iload_n hC dX11_race_18 rfl 1 rfl ?_
    refine r_callVP hC (b := 58) (ci := 7) (st := []) [.int a2] rfl (hC.n rfl) rfl rfl (c_X7_isMissing hC.w σ a2) yk_X7_isMissing lm_X11_269 rfl ⟨rfl, rfl⟩ rfl dX11_race_19 (fun v3 => ?_)
    refine r_if_eq hC 28 dX11_race_22 (by decide) (fun c4 => ?_) (fun c4 => ?_)
    · refine r_aload_n hC dX11_race_28 rfl 0 rfl ?_
      refine r_getR hC clX11 0 15 58 rfl rfl rfl (hC.n rfl) rfl lf_X11_95 dX11_race_29 ?_
      refine r_getR hC clX7 58 1 60 rfl rfl rfl (hC.n rfl) rfl lf_X11_272 dX11_race_32 ?_
      refine r_iload_n hC dX11_race_35 rfl 1 rfl ?_
      refine r_gd (fun g5 => ?_)
      refine r_iald hC 60 4 rfl rfl g5 dX11_race_36 ?_
      refine r_nmI (fun v6 => ?_)
      refine r_bipush (v := 6) hC dX11_race_37 (by decide) ?_
      refine r_icmp_eq hC 45 dX11_race_39 (by decide) (fun c7 => ?_) (fun c7 => ?_)
      · refine r_aload_n hC dX11_race_45 rfl 0 rfl ?_
        refine r_getR hC clX11 0 14 56 rfl rfl rfl (hC.n rfl) rfl lf_X11_88 dX11_race_46 ?_
        refine r_aload_n hC dX11_race_49 rfl 0 rfl ?_
        refine r_getR hC clX11 0 15 58 rfl rfl rfl (hC.n rfl) rfl lf_X11_95 dX11_race_50 ?_
        refine r_getR hC clX7 58 2 61 rfl rfl rfl (hC.n rfl) rfl lf_X11_273 dX11_race_53 ?_
        refine r_iload_n hC dX11_race_56 rfl 1 rfl ?_
        refine r_gd (fun g8 => ?_)
        have e9 := aaI g8
        refine r_aald hC 61 4 (62 + Int32.toNatClampNeg a2) rfl rfl g8 e9.1 dX11_race_57 ?_
        refine r_callVI hC (b := 56) (ci := 5) (st := []) [.ref (wA w (62 + Int32.toNatClampNeg a2))] rfl (hC.n rfl) rfl rfl (c_X5_add hC.w σ (62 + Int32.toNatClampNeg a2) e9.2.1 e9.2.2) yk_X5_add lm_X11_277 rfl ⟨rfl, rfl⟩ rfl dX11_race_58 (fun v10 σ11 => ?_)
        exact r_iret hC hret rfl dX11_race_61
      · refine r_bipush (v := (-2)) hC dX11_race_42 (by decide) ?_
        exact r_iret hC hret rfl dX11_race_44
    · refine r_bipush (v := (-11)) hC dX11_race_25 (by decide) ?_
      exact r_iret hC hret rfl dX11_race_27
  · refine r_bipush (v := (-2)) hC dX11_race_11 (by decide) ?_
    exact r_iret hC hret rfl dX11_race_13
set_option maxHeartbeats 4000000 in
set_option maxRecDepth 100000 in
theorem w_X11_commonDivisor_l7 {X : Mc} {w : Wd} (hC : Cok X w (Aw w (xs_ X).heap.size) yX11_commonDivisor.cls cX11_commonDivisor 6 0 0 shX rX 66) (hret : (xmeth X).sig.returnType = some .int) (σ : St)     : ∀ (n : Nat) (x1 : Int32) (x2 : Int32) (x3 : Int32), RF X w (Aw w (xs_ X).heap.size) 6 (fun r => QI X w (r, σ)) (f_X11_commonDivisor_l7 n x1 x2 x3) 7 [(2, .int x1), (3, .int x2), (4, .int x3)] [] σ := by
  intro n
  induction n with
  | zero => intro x1 x2 x3; rw [f_X11_commonDivisor_l7]; exact r_none
  | succ n ih =>
    intro x1 x2 x3
    rw [f_X11_commonDivisor_l7]
    refine r_iload hC dX11_commonDivisor_7 2 rfl ?_
    refine r_bipush (v := 64) hC dX11_commonDivisor_9 (by decide) ?_
    refine r_icmp_ge hC 34 dX11_commonDivisor_11 (by decide) (fun c4 => ?_) (fun c4 => ?_)
    · refine r_iload_n hC dX11_commonDivisor_34 rfl 0 rfl ?_
      exact r_iretP hC hret rfl dX11_commonDivisor_35
    · refine r_iload_n hC dX11_commonDivisor_14 rfl 1 rfl ?_
      refine r_if_eq hC 34 dX11_commonDivisor_15 (by decide) (fun c5 => ?_) (fun c5 => ?_)
      · refine r_iload_n hC dX11_commonDivisor_34 rfl 0 rfl ?_
        exact r_iretP hC hret rfl dX11_commonDivisor_35
      · refine r_iload_n hC dX11_commonDivisor_18 rfl 0 rfl ?_
        refine r_iload_n hC dX11_commonDivisor_19 rfl 1 rfl ?_
        refine r_gd (fun g6 => ?_)
        refine r_irem hC dX11_commonDivisor_20 g6 ?_
        refine r_nmI (fun v7 => ?_)
        refine r_istore (lv' := [(5, .int v7), (2, .int x1), (3, .int x2), (4, .int x3)]) hC dX11_commonDivisor_21 (by decide) rfl ?_
        refine r_iload_n hC dX11_commonDivisor_23 rfl 2 rfl ?_
        refine r_istore_n (lv' := [(2, .int x2), (5, .int v7), (3, .int x2), (4, .int x3)]) hC dX11_commonDivisor_24 rfl (by decide) rfl ?_
        refine r_iload hC dX11_commonDivisor_25 1 rfl ?_
        refine r_istore_n (lv' := [(3, .int v7), (2, .int x2), (5, .int v7), (4, .int x3)]) hC dX11_commonDivisor_27 rfl (by decide) rfl ?_
        refine r_iinc (v := x3 + 1) (lv' := [(4, .int (x3 + 1)), (3, .int v7), (2, .int x2), (5, .int v7)]) hC dX11_commonDivisor_28 3 rfl rfl (by decide) rfl ?_
        refine r_goto hC 7 dX11_commonDivisor_31 (by decide) ?_
        exact r_lv [2, 1, 0] rfl (ih x2 v7 (x3 + 1))
set_option maxHeartbeats 4000000 in
set_option maxRecDepth 100000 in
theorem c_X11_commonDivisor {l : Launch} {w : Wd} (hW : HWd w shX rX 66) (σ : St) (a1 : Int32) (a2 : Int32)  : ∀ res, f_X11_commonDivisor a1 a2 = some res → MtI l yX11_commonDivisor cX11_commonDivisor 6 .int 0 0 w [.int a1, .int a2] σ (res, σ) := by
  refine mt_P (by decide) rfl hW (fun X hl0 hC hret => ?_)
  show RF X w (Aw w (xs_ X).heap.size) 6 (fun r => QI X w (r, σ)) (f_X11_commonDivisor a1 a2) 0 [(0, .int a1), (1, .int a2)] [] σ
  unfold f_X11_commonDivisor
  refine r_iload_n hC dX11_commonDivisor_0 rfl 0 rfl ?_
  refine r_istore_n (lv' := [(2, .int a1), (0, .int a1), (1, .int a2)]) hC dX11_commonDivisor_1 rfl (by decide) rfl ?_
  refine r_iload_n hC dX11_commonDivisor_2 rfl 2 rfl ?_
  refine r_istore_n (lv' := [(3, .int a2), (2, .int a1), (0, .int a1), (1, .int a2)]) hC dX11_commonDivisor_3 rfl (by decide) rfl ?_
  refine r_iconst (v := 0) hC dX11_commonDivisor_4 (by decide) ?_
  refine r_istore (lv' := [(4, .int 0), (3, .int a2), (2, .int a1), (0, .int a1), (1, .int a2)]) hC dX11_commonDivisor_5 (by decide) rfl ?_
  refine r_lv [2, 1, 0] rfl ?_
  exact w_X11_commonDivisor_l7 hC hret σ FU a1 a2 0
set_option maxHeartbeats 4000000 in
set_option maxRecDepth 100000 in
theorem c_X11_lanes {l : Launch} {w : Wd} (hW : HWd w shX rX 66) (σ : St) (a2 : Int32) (a3 : Int32) (a4 : Int32)  : ∀ res, f_X11_lanes σ a2 a3 a4 = some res → MtL l yX11_lanes cX11_lanes 7 .long 3 69 w [.ref (wA w 0), .int a2, .int a3, .int a4] σ (res, σ) := by
  refine mt_PL (by decide) rfl hW (fun X hl0 hC hret => ?_)
  show RF X w (Aw w (xs_ X).heap.size) 7 (fun r => QL X w (r, σ)) (f_X11_lanes σ a2 a3 a4) 0 [(0, .ref (wA w 0)), (1, .int a2), (2, .int a3), (3, .int a4)] [] σ
  unfold f_X11_lanes
  refine r_iload_n hC dX11_lanes_0 rfl 1 rfl ?_
  refine r_callSP hC (st := []) [.int a2] (c_X5_isLane hC.w σ a2) yk_X5_isLane lm_X11_280 rfl ⟨rfl, rfl⟩ rfl dX11_lanes_1 (fun v1 => ?_)
  refine r_if_eq hC 28 dX11_lanes_4 (by decide) (fun c2 => ?_) (fun c2 => ?_)
  · refine r_ldc2 (v := (-4611686018427387904)) hC lc_X11_191 dX11_lanes_28 ?_
    exact r_lretP hC hret dX11_lanes_31
  · refine r_iload_n hC dX11_lanes_7 rfl 2 rfl ?_
    refine r_callSP hC (st := []) [.int a3] (c_X5_isLane hC.w σ a3) yk_X5_isLane lm_X11_280 rfl ⟨rfl, rfl⟩ rfl dX11_lanes_8 (fun v3 => ?_)
    refine r_if_eq hC 28 dX11_lanes_11 (by decide) (fun c4 => ?_) (fun c4 => ?_)
    · refine r_ldc2 (v := (-4611686018427387904)) hC lc_X11_191 dX11_lanes_28 ?_
      exact r_lretP hC hret dX11_lanes_31
    · refine r_iload_n hC dX11_lanes_14 rfl 1 rfl ?_
      refine r_iload_n hC dX11_lanes_15 rfl 2 rfl ?_
      refine r_icmp_eq hC 28 dX11_lanes_16 (by decide) (fun c5 => ?_) (fun c5 => ?_)
      · refine r_ldc2 (v := (-4611686018427387904)) hC lc_X11_191 dX11_lanes_28 ?_
        exact r_lretP hC hret dX11_lanes_31
      · refine r_iload_n hC dX11_lanes_19 rfl 3 rfl ?_
        refine r_iconst (v := 0) hC dX11_lanes_20 (by decide) ?_
        refine r_iconst (v := 1) hC dX11_lanes_21 (by decide) ?_
        refine r_callSP hC (st := []) [.int a4, .int 0, .int 1] (c_X11_within hC.w σ a4 0 1) yk_X11_within lm_X11_99 rfl ⟨rfl, rfl⟩ rfl dX11_lanes_22 (fun v6 => ?_)
        refine r_if_ne hC 32 dX11_lanes_25 (by decide) (fun c7 => ?_) (fun c7 => ?_)
        · refine r_aload_n hC dX11_lanes_32 rfl 0 rfl ?_
          refine r_getR hC clX11 0 14 56 rfl rfl rfl (hC.n rfl) rfl lf_X11_88 dX11_lanes_33 ?_
          refine r_iload_n hC dX11_lanes_36 rfl 1 rfl ?_
          refine r_iload_n hC dX11_lanes_37 rfl 2 rfl ?_
          refine r_callVP hC (b := 56) (ci := 5) (st := []) [.int a2, .int a3] rfl (hC.n rfl) rfl rfl (c_X5_differences hC.w σ a2 a3) yk_X5_differences lm_X11_283 rfl ⟨rfl, rfl⟩ rfl dX11_lanes_38 (fun v8 => ?_)
          refine r_istore (lv' := [(4, .int v8), (0, .ref (wA w 0)), (1, .int a2), (2, .int a3), (3, .int a4)]) hC dX11_lanes_41 (by decide) rfl ?_
          refine r_aload_n hC dX11_lanes_43 rfl 1 rfl ?_
          refine r_getR hC clX11 0 14 56 rfl rfl rfl (hC.n rfl) rfl lf_X11_88 dX11_lanes_44 ?_
          refine r_iload_n hC dX11_lanes_47 rfl 2 rfl ?_
          refine r_iload_n hC dX11_lanes_48 rfl 3 rfl ?_
          refine r_callVP hC (b := 56) (ci := 5) (st := []) [.int a2, .int a3] rfl (hC.n rfl) rfl rfl (c_X5_meetings hC.w σ a2 a3) yk_X5_meetings lm_X11_286 rfl ⟨rfl, rfl⟩ rfl dX11_lanes_49 (fun v9 => ?_)
          refine r_istore (lv' := [(5, .int v9), (4, .int v8), (0, .ref (wA w 0)), (1, .int a2), (2, .int a3), (3, .int a4)]) hC dX11_lanes_52 (by decide) rfl ?_
          refine r_iload hC dX11_lanes_54 1 rfl ?_
          refine r_mabs hC (by decide) (Nat.le_of_ble_eq_true rfl) lm_X11_289 ws_mabs wi_math wc_mabs dX11_lanes_56 ?_
          refine r_nmI (fun v10 => ?_)
          refine r_iload hC dX11_lanes_59 0 rfl ?_
          refine r_callSP hC (st := []) [.int v10, .int v9] (c_X11_commonDivisor hC.w σ v10 v9) yk_X11_commonDivisor lm_X11_291 rfl ⟨rfl, rfl⟩ rfl dX11_lanes_61 (fun v11 => ?_)
          refine r_istore (lv' := [(6, .int v11), (5, .int v9), (4, .int v8), (0, .ref (wA w 0)), (1, .int a2), (2, .int a3), (3, .int a4)]) hC dX11_lanes_64 (by decide) rfl ?_
          refine r_iload hC dX11_lanes_66 0 rfl ?_
          refine r_if_ne hC 81 dX11_lanes_68 (by decide) (fun c12 => ?_) (fun c12 => ?_)
          · refine r_iload_n hC dX11_lanes_81 rfl 6 rfl ?_
            refine r_if_ne hC 94 dX11_lanes_82 (by decide) (fun c13 => ?_) (fun c13 => ?_)
            · refine r_iload hC dX11_lanes_94 1 rfl ?_
              refine r_iload hC dX11_lanes_96 0 rfl ?_
              refine r_gd (fun g14 => ?_)
              refine r_idiv hC dX11_lanes_98 g14 ?_
              refine r_i2l hC dX11_lanes_99 ?_
              exact r_lretP hC hret dX11_lanes_100
            · refine r_iload hC dX11_lanes_85 2 rfl ?_
              refine r_iload hC dX11_lanes_87 0 rfl ?_
              refine r_gd (fun g15 => ?_)
              refine r_idiv hC dX11_lanes_89 g15 ?_
              refine r_i2l hC dX11_lanes_90 ?_
              refine r_goto hC 100 dX11_lanes_91 (by decide) ?_
              exact r_lretP hC hret dX11_lanes_100
          · refine r_iload_n hC dX11_lanes_71 rfl 6 rfl ?_
            refine r_if_ne hC 79 dX11_lanes_72 (by decide) (fun c16 => ?_) (fun c16 => ?_)
            · refine r_lconst (v := 1) hC dX11_lanes_79 (by decide) ?_
              exact r_lretP hC hret dX11_lanes_80
            · refine r_lconst (v := 0) hC dX11_lanes_75 (by decide) ?_
              refine r_goto hC 80 dX11_lanes_76 (by decide) ?_
              exact r_lretP hC hret dX11_lanes_80
        · refine r_ldc2 (v := (-4611686018427387904)) hC lc_X11_191 dX11_lanes_28 ?_
          exact r_lretP hC hret dX11_lanes_31
set_option maxHeartbeats 4000000 in
set_option maxRecDepth 100000 in
theorem w_X11_fair_l4 {X : Mc} {w : Wd} (hC : Cok X w (Aw w (xs_ X).heap.size) yX11_fair.cls cX11_fair 3 3 69 shX rX 66) (hret : (xmeth X).sig.returnType = some .int) (σ : St)     : ∀ (n : Nat) (x1 : Int32) (x2 : Int32), RF X w (Aw w (xs_ X).heap.size) 3 (fun r => QI X w (r, σ)) (f_X11_fair_l4 σ n x1 x2) 4 [(0, .ref (wA w 0)), (1, .int x1), (2, .int x2)] [] σ := by
  intro n
  induction n with
  | zero => intro x1 x2; rw [f_X11_fair_l4]; exact r_none
  | succ n ih =>
    intro x1 x2
    rw [f_X11_fair_l4]
    refine r_iload_n hC dX11_fair_4 rfl 2 rfl ?_
    refine r_bipush (v := 6) hC dX11_fair_5 (by decide) ?_
    refine r_icmp_ge hC 33 dX11_fair_7 (by decide) (fun c3 => ?_) (fun c3 => ?_)
    · refine r_iload_n hC dX11_fair_33 rfl 1 rfl ?_
      exact r_iretP hC hret rfl dX11_fair_34
    · refine r_aload_n hC dX11_fair_10 rfl 0 rfl ?_
      refine r_getR hC clX11 0 14 56 rfl rfl rfl (hC.n rfl) rfl lf_X11_88 dX11_fair_11 ?_
      refine r_iload_n hC dX11_fair_14 rfl 2 rfl ?_
      refine r_callVP hC (b := 56) (ci := 5) (st := []) [.int x2] rfl (hC.n rfl) rfl rfl (c_X5_isFair hC.w σ x2) yk_X5_isFair lm_X11_294 rfl ⟨rfl, rfl⟩ rfl dX11_fair_15 (fun v4 => ?_)
      refine r_jn (T := fun (j6 : Int32 → Option Int32) => ∀ (x5 : Int32), RF X w (Aw w (xs_ X).heap.size) 3 (fun r => QI X w (r, σ)) (j6 x5) 27 [(0, .ref (wA w 0)), (1, .int x5), (2, .int x2)] [] σ) ?_ (fun j6 hj6 => ?_)
      · intro x5
        refine r_iinc (v := x2 + 1) (lv' := [(2, .int (x2 + 1)), (0, .ref (wA w 0)), (1, .int x5)]) hC dX11_fair_27 2 rfl rfl (by decide) rfl ?_
        refine r_goto hC 4 dX11_fair_30 (by decide) ?_
        exact r_lv [1, 2, 0] rfl (ih x5 (x2 + 1))
      · refine r_if_eq hC 27 dX11_fair_18 (by decide) (fun c7 => ?_) (fun c7 => ?_)
        · exact r_lv [0, 1, 2] rfl (hj6 x1)
        · refine r_iload_n hC dX11_fair_21 rfl 1 rfl ?_
          refine r_iconst (v := 1) hC dX11_fair_22 (by decide) ?_
          refine r_iload_n hC dX11_fair_23 rfl 2 rfl ?_
          refine r_ishl hC dX11_fair_24 ?_
          refine r_ior hC dX11_fair_25 ?_
          refine r_nmI (fun v8 => ?_)
          refine r_istore_n (lv' := [(1, .int v8), (0, .ref (wA w 0)), (2, .int x2)]) hC dX11_fair_26 rfl (by decide) rfl ?_
          exact r_lv [1, 0, 2] rfl (hj6 v8)
set_option maxHeartbeats 4000000 in
set_option maxRecDepth 100000 in
theorem c_X11_fair {l : Launch} {w : Wd} (hW : HWd w shX rX 66) (σ : St)   : ∀ res, f_X11_fair σ = some res → MtI l yX11_fair cX11_fair 3 .int 3 69 w [.ref (wA w 0)] σ (res, σ) := by
  refine mt_P (by decide) rfl hW (fun X hl0 hC hret => ?_)
  show RF X w (Aw w (xs_ X).heap.size) 3 (fun r => QI X w (r, σ)) (f_X11_fair σ) 0 [(0, .ref (wA w 0))] [] σ
  unfold f_X11_fair
  refine r_iconst (v := 0) hC dX11_fair_0 (by decide) ?_
  refine r_istore_n (lv' := [(1, .int 0), (0, .ref (wA w 0))]) hC dX11_fair_1 rfl (by decide) rfl ?_
  refine r_iconst (v := 0) hC dX11_fair_2 (by decide) ?_
  refine r_istore_n (lv' := [(2, .int 0), (1, .int 0), (0, .ref (wA w 0))]) hC dX11_fair_3 rfl (by decide) rfl ?_
  refine r_lv [2, 1, 0] rfl ?_
  exact w_X11_fair_l4 hC hret σ FU 0 0
set_option maxHeartbeats 4000000 in
set_option maxRecDepth 100000 in
theorem c_X11_image {l : Launch} {w : Wd} (hW : HWd w shX rX 66) (σ : St)   : ∀ res, f_X11_image σ = some res → MtI l yX11_image cX11_image 1 .int 2 81 w [.ref (wA w 0)] σ res := by
  refine mt_I (by decide) rfl hW (fun X hl0 hC hret => ?_)
  show RF X w (Aw w (xs_ X).heap.size) 1 (QI X w) (f_X11_image σ) 0 [(0, .ref (wA w 0))] [] σ
  unfold f_X11_image
  refine r_aload_n hC dX11_image_0 rfl 0 rfl ?_
  refine r_getR hC clX11 0 2 10 rfl rfl rfl (hC.n rfl) rfl lf_X11_23 dX11_image_1 ?_
  refine r_aload_n hC dX11_image_4 rfl 0 rfl ?_
  refine r_getR hC clX11 0 1 6 rfl rfl rfl (hC.n rfl) rfl lf_X11_19 dX11_image_5 ?_
  refine r_callVV hC (b := 10) (ci := 0) (st := []) [.ref (wA w 6)] rfl (hC.n rfl) rfl rfl (c_X0_become_b hC.w σ) yk_X0_become lm_X11_297 rfl ⟨rfl, rfl⟩ rfl dX11_image_8 (fun σ1 => ?_)
  refine r_aload_n hC dX11_image_11 rfl 0 rfl ?_
  refine r_getR hC clX11 0 0 1 rfl rfl rfl (hC.n rfl) rfl lf_X11_10 dX11_image_12 ?_
  refine r_getR hC clX2 1 2 4 rfl rfl rfl (hC.n rfl) rfl lf_X11_117 dX11_image_15 ?_
  refine r_iconst (v := 0) hC dX11_image_18 (by decide) ?_
  refine r_aload_n hC dX11_image_19 rfl 0 rfl ?_
  refine r_getR hC clX11 0 3 14 rfl rfl rfl (hC.n rfl) rfl lf_X11_26 dX11_image_20 ?_
  refine r_iconst (v := 0) hC dX11_image_23 (by decide) ?_
  refine r_bipush (v := 16) hC dX11_image_24 (by decide) ?_
  refine r_gd (fun g2 => ?_)
  refine r_copyi hC 4 14 16 16 rfl rfl rfl rfl g2 (by decide) (Nat.le_of_ble_eq_true rfl) lm_X11_214 wn_copy ws_copy wi_sys dX11_image_26 ?_
  refine r_nmS (fun σ3 => ?_)
  refine r_aload_n hC dX11_image_29 rfl 0 rfl ?_
  refine r_aload_n hC dX11_image_30 rfl 0 rfl ?_
  refine r_getR hC clX11 0 0 1 rfl rfl rfl (hC.n rfl) rfl lf_X11_10 dX11_image_31 ?_
  refine r_getI hC clX2 1 4 rfl rfl (hC.n rfl) rfl lf_X11_301 dX11_image_34 ?_
  refine r_nmI (fun v4 => ?_)
  refine r_putI hC clX11 0 4 rfl rfl rfl (hC.n rfl) rfl rfl lf_X11_30 dX11_image_37 ?_
  refine r_nmS (fun σ5 => ?_)
  refine r_aload_n hC dX11_image_40 rfl 0 rfl ?_
  refine r_aload_n hC dX11_image_41 rfl 0 rfl ?_
  refine r_getI hC clX11 0 10 rfl rfl (hC.n rfl) rfl lf_X11_173 dX11_image_42 ?_
  refine r_nmI (fun v6 => ?_)
  refine r_putI hC clX11 0 5 rfl rfl rfl (hC.n rfl) rfl rfl lf_X11_302 dX11_image_45 ?_
  refine r_nmS (fun σ7 => ?_)
  refine r_aload_n hC dX11_image_48 rfl 0 rfl ?_
  refine r_getR hC clX11 0 1 6 rfl rfl rfl (hC.n rfl) rfl lf_X11_19 dX11_image_49 ?_
  refine r_callVP hC (b := 6) (ci := 0) (st := []) [] rfl (hC.n rfl) rfl rfl (c_X0_sitters hC.w σ7) yk_X0_sitters lm_X11_305 rfl ⟨rfl, rfl⟩ rfl dX11_image_52 (fun v8 => ?_)
  exact r_iret hC hret rfl dX11_image_55
set_option maxHeartbeats 4000000 in
set_option maxRecDepth 100000 in
theorem c_X11_back {l : Launch} {w : Wd} (hW : HWd w shX rX 66) (σ : St)   : ∀ res, f_X11_back σ = some res → MtI l yX11_back cX11_back 1 .int 2 81 w [.ref (wA w 0)] σ res := by
  refine mt_I (by decide) rfl hW (fun X hl0 hC hret => ?_)
  show RF X w (Aw w (xs_ X).heap.size) 1 (QI X w) (f_X11_back σ) 0 [(0, .ref (wA w 0))] [] σ
  unfold f_X11_back
  refine r_aload_n hC dX11_back_0 rfl 0 rfl ?_
  refine r_getI hC clX11 0 4 rfl rfl (hC.n rfl) rfl lf_X11_30 dX11_back_1 ?_
  refine r_nmI (fun v1 => ?_)
  refine r_iconst (v := (-1)) hC dX11_back_4 (by decide) ?_
  refine r_icmp_ne hC 11 dX11_back_5 (by decide) (fun c2 => ?_) (fun c2 => ?_)
  · refine r_aload_n hC dX11_back_11 rfl 0 rfl ?_
    refine r_getR hC clX11 0 1 6 rfl rfl rfl (hC.n rfl) rfl lf_X11_19 dX11_back_12 ?_
    refine r_aload_n hC dX11_back_15 rfl 0 rfl ?_
    refine r_getR hC clX11 0 2 10 rfl rfl rfl (hC.n rfl) rfl lf_X11_23 dX11_back_16 ?_
    refine r_callVV hC (b := 6) (ci := 0) (st := []) [.ref (wA w 10)] rfl (hC.n rfl) rfl rfl (c_X0_become_a hC.w σ) yk_X0_become lm_X11_297 rfl ⟨rfl, rfl⟩ rfl dX11_back_19 (fun σ3 => ?_)
    refine r_aload_n hC dX11_back_22 rfl 0 rfl ?_
    refine r_getR hC clX11 0 3 14 rfl rfl rfl (hC.n rfl) rfl lf_X11_26 dX11_back_23 ?_
    refine r_iconst (v := 0) hC dX11_back_26 (by decide) ?_
    refine r_aload_n hC dX11_back_27 rfl 0 rfl ?_
    refine r_getR hC clX11 0 0 1 rfl rfl rfl (hC.n rfl) rfl lf_X11_10 dX11_back_28 ?_
    refine r_getR hC clX2 1 2 4 rfl rfl rfl (hC.n rfl) rfl lf_X11_117 dX11_back_31 ?_
    refine r_iconst (v := 0) hC dX11_back_34 (by decide) ?_
    refine r_aload_n hC dX11_back_35 rfl 0 rfl ?_
    refine r_getI hC clX11 0 4 rfl rfl (hC.n rfl) rfl lf_X11_30 dX11_back_36 ?_
    refine r_nmI (fun v4 => ?_)
    refine r_gd (fun g5 => ?_)
    refine r_copyi hC 14 4 16 16 rfl rfl rfl rfl g5 (by decide) (Nat.le_of_ble_eq_true rfl) lm_X11_214 wn_copy ws_copy wi_sys dX11_back_39 ?_
    refine r_nmS (fun σ6 => ?_)
    refine r_aload_n hC dX11_back_42 rfl 0 rfl ?_
    refine r_aload_n hC dX11_back_43 rfl 0 rfl ?_
    refine r_getI hC clX11 0 5 rfl rfl (hC.n rfl) rfl lf_X11_302 dX11_back_44 ?_
    refine r_nmI (fun v7 => ?_)
    refine r_putI hC clX11 0 10 rfl rfl rfl (hC.n rfl) rfl rfl lf_X11_173 dX11_back_47 ?_
    refine r_nmS (fun σ8 => ?_)
    refine r_aload_n hC dX11_back_50 rfl 0 rfl ?_
    refine r_getR hC clX11 0 1 6 rfl rfl rfl (hC.n rfl) rfl lf_X11_19 dX11_back_51 ?_
    refine r_callVP hC (b := 6) (ci := 0) (st := []) [] rfl (hC.n rfl) rfl rfl (c_X0_sitters hC.w σ8) yk_X0_sitters lm_X11_305 rfl ⟨rfl, rfl⟩ rfl dX11_back_54 (fun v9 => ?_)
    exact r_iret hC hret rfl dX11_back_57
  · refine r_bipush (v := (-3)) hC dX11_back_8 (by decide) ?_
    exact r_iret hC hret rfl dX11_back_10
set_option maxHeartbeats 4000000 in
set_option maxRecDepth 100000 in
theorem c_X11_count {l : Launch} {w : Wd} (hW : HWd w shX rX 66) (σ : St) (a2 : Int32)  : ∀ res, f_X11_count σ a2 = some res → MtI l yX11_count cX11_count 2 .int 2 44 w [.ref (wA w 0), .int a2] σ (res, σ) := by
  refine mt_P (by decide) rfl hW (fun X hl0 hC hret => ?_)
  show RF X w (Aw w (xs_ X).heap.size) 2 (fun r => QI X w (r, σ)) (f_X11_count σ a2) 0 [(0, .ref (wA w 0)), (1, .int a2)] [] σ
  unfold f_X11_count
  refine r_iload_n hC dX11_count_0 rfl 1 rfl ?_
  refine r_tab1 (off := 51) hC 52 0 dX11_count_1 (by decide) (by decide) (by decide) (by decide) ?_ (fun c2 => ?_)
  · refine r_aload_n hC dX11_count_52 rfl 0 rfl ?_
    refine r_getR hC clX11 0 0 1 rfl rfl rfl (hC.n rfl) rfl lf_X11_10 dX11_count_53 ?_
    refine r_getI hC clX2 1 4 rfl rfl (hC.n rfl) rfl lf_X11_301 dX11_count_56 ?_
    refine r_nmI (fun v1 => ?_)
    exact r_iretP hC hret rfl dX11_count_59
  · refine r_tab1 (off := 59) hC 60 1 dX11_count_1 (by decide) (by decide) (by decide) (by decide) ?_ (fun c4 => ?_)
    · refine r_aload_n hC dX11_count_60 rfl 0 rfl ?_
      refine r_getR hC clX11 0 1 6 rfl rfl rfl (hC.n rfl) rfl lf_X11_19 dX11_count_61 ?_
      refine r_callVP hC (b := 6) (ci := 0) (st := []) [] rfl (hC.n rfl) rfl rfl (c_X0_sitters hC.w σ) yk_X0_sitters lm_X11_305 rfl ⟨rfl, rfl⟩ rfl dX11_count_64 (fun v3 => ?_)
      exact r_iretP hC hret rfl dX11_count_67
    · refine r_tab1 (off := 67) hC 68 2 dX11_count_1 (by decide) (by decide) (by decide) (by decide) ?_ (fun c6 => ?_)
      · refine r_aload_n hC dX11_count_68 rfl 0 rfl ?_
        refine r_getR hC clX11 0 11 20 rfl rfl rfl (hC.n rfl) rfl lf_X11_65 dX11_count_69 ?_
        refine r_getI hC clX4 20 3 rfl rfl (hC.n rfl) rfl lf_X11_183 dX11_count_72 ?_
        refine r_nmI (fun v5 => ?_)
        exact r_iretP hC hret rfl dX11_count_75
      · refine r_tab1 (off := 75) hC 76 3 dX11_count_1 (by decide) (by decide) (by decide) (by decide) ?_ (fun c8 => ?_)
        · refine r_aload_n hC dX11_count_76 rfl 0 rfl ?_
          refine r_getI hC clX11 0 9 rfl rfl (hC.n rfl) rfl lf_X11_59 dX11_count_77 ?_
          refine r_nmI (fun v7 => ?_)
          exact r_iretP hC hret rfl dX11_count_80
        · refine r_tab1 (off := 80) hC 81 4 dX11_count_1 (by decide) (by decide) (by decide) (by decide) ?_ (fun c10 => ?_)
          · refine r_aload_n hC dX11_count_81 rfl 0 rfl ?_
            refine r_getR hC clX11 0 6 15 rfl rfl rfl (hC.n rfl) rfl lf_X11_37 dX11_count_82 ?_
            refine r_getI hC clX8 15 1 rfl rfl (hC.n rfl) rfl lf_X11_166 dX11_count_85 ?_
            refine r_nmI (fun v9 => ?_)
            exact r_iretP hC hret rfl dX11_count_88
          · refine r_tab1 (off := 88) hC 89 5 dX11_count_1 (by decide) (by decide) (by decide) (by decide) ?_ (fun c12 => ?_)
            · refine r_aload_n hC dX11_count_89 rfl 0 rfl ?_
              refine r_getI hC clX11 0 10 rfl rfl (hC.n rfl) rfl lf_X11_173 dX11_count_90 ?_
              refine r_nmI (fun v11 => ?_)
              exact r_iretP hC hret rfl dX11_count_93
            · refine r_tab1 (off := 93) hC 94 6 dX11_count_1 (by decide) (by decide) (by decide) (by decide) ?_ (fun c14 => ?_)
              · refine r_aload_n hC dX11_count_94 rfl 0 rfl ?_
                refine r_getR hC clX11 0 13 37 rfl rfl rfl (hC.n rfl) rfl lf_X11_81 dX11_count_95 ?_
                refine r_getI hC clX10 37 4 rfl rfl (hC.n rfl) rfl lf_X11_308 dX11_count_98 ?_
                refine r_nmI (fun v13 => ?_)
                exact r_iretP hC hret rfl dX11_count_101
              · refine r_tab1 (off := 101) hC 102 7 dX11_count_1 (by decide) (by decide) (by decide) (by decide) ?_ (fun c16 => ?_)
                · refine r_aload_n hC dX11_count_102 rfl 0 rfl ?_
                  refine r_getR hC clX11 0 14 56 rfl rfl rfl (hC.n rfl) rfl lf_X11_88 dX11_count_103 ?_
                  refine r_getI hC clX5 56 1 rfl rfl (hC.n rfl) rfl lf_X11_309 dX11_count_106 ?_
                  refine r_nmI (fun v15 => ?_)
                  exact r_iretP hC hret rfl dX11_count_109
                · refine r_tab1 (off := 109) hC 110 8 dX11_count_1 (by decide) (by decide) (by decide) (by decide) ?_ (fun c18 => ?_)
                  · refine r_aload_n hC dX11_count_110 rfl 0 rfl ?_
                    refine r_getR hC clX11 0 1 6 rfl rfl rfl (hC.n rfl) rfl lf_X11_19 dX11_count_111 ?_
                    refine r_aload_n hC dX11_count_114 rfl 0 rfl ?_
                    refine r_getR hC clX11 0 0 1 rfl rfl rfl (hC.n rfl) rfl lf_X11_10 dX11_count_115 ?_
                    refine r_callVP hC (b := 6) (ci := 0) (st := []) [.ref (wA w 1)] rfl (hC.n rfl) rfl rfl (c_X0_weightOf hC.w σ) yk_X0_weightOf lm_X11_310 rfl ⟨rfl, rfl⟩ rfl dX11_count_118 (fun v17 => ?_)
                    exact r_iretP hC hret rfl dX11_count_121
                  · refine r_tabD hC 122 dX11_count_1 (by have e0 := ne_toInt (a := 0) (by decide) c2; have e1 := ne_toInt (a := 1) (by decide) c4; have e2 := ne_toInt (a := 2) (by decide) c6; have e3 := ne_toInt (a := 3) (by decide) c8; have e4 := ne_toInt (a := 4) (by decide) c10; have e5 := ne_toInt (a := 5) (by decide) c12; have e6 := ne_toInt (a := 6) (by decide) c14; have e7 := ne_toInt (a := 7) (by decide) c16; have e8 := ne_toInt (a := 8) (by decide) c18; omega) (by decide) ?_
                    refine r_bipush (v := (-2)) hC dX11_count_122 (by decide) ?_
                    exact r_iretP hC hret rfl dX11_count_124
set_option maxHeartbeats 4000000 in
set_option maxRecDepth 100000 in
theorem c_X11_sheet {l : Launch} {w : Wd} (hW : HWd w shX rX 66) (σ : St) (a2 : Int32) (a3 : Int32) (a4 : Int32)  : ∀ res, f_X11_sheet σ a2 a3 a4 = some res → MtI l yX11_sheet cX11_sheet 4 .int 2 46 w [.ref (wA w 0), .int a2, .int a3, .int a4] σ res := by
  refine mt_I (by decide) rfl hW (fun X hl0 hC hret => ?_)
  show RF X w (Aw w (xs_ X).heap.size) 4 (QI X w) (f_X11_sheet σ a2 a3 a4) 0 [(0, .ref (wA w 0)), (1, .int a2), (2, .int a3), (3, .int a4)] [] σ
  unfold f_X11_sheet
  refine r_aload_n hC dX11_sheet_0 rfl 0 rfl ?_
  refine r_getR hC clX11 0 15 58 rfl rfl rfl (hC.n rfl) rfl lf_X11_95 dX11_sheet_1 ?_
  refine r_iload_n hC dX11_sheet_4 rfl 1 rfl ?_
  refine r_callVP hC (b := 58) (ci := 7) (st := []) [.int a2] rfl (hC.n rfl) rfl rfl (c_X7_has hC.w σ a2) yk_X7_has lm_X11_268 rfl ⟨rfl, rfl⟩ rfl dX11_sheet_5 (fun v1 => ?_)
  refine r_if_eq hC 23 dX11_sheet_8 (by decide) (fun c2 => ?_) (fun c2 => ?_)
  · refine r_bipush (v := (-2)) hC dX11_sheet_23 (by decide) ?_
    exact r_iret hC hret rfl dX11_sheet_25
  · refine r_iload_n hC dX11_sheet_11 rfl 2 rfl ?_
    refine r_iconst (v := (-1)) hC dX11_sheet_12 (by decide) ?_
    refine r_jn (T := fun (j3 : Option (Int32 × St)) => RF X w (Aw w (xs_ X).heap.size) 4 (QI X w) j3 26 [(0, .ref (wA w 0)), (1, .int a2), (2, .int a3), (3, .int a4)] [] σ) ?_ (fun j3 hj3 => ?_)
    · refine r_iload_n hC dX11_sheet_26 rfl 2 rfl ?_
      refine r_iconst (v := (-1)) hC dX11_sheet_27 (by decide) ?_
      refine r_icmp_ne hC 43 dX11_sheet_28 (by decide) (fun c4 => ?_) (fun c4 => ?_)
      · refine r_iload_n hC dX11_sheet_43 rfl 3 rfl ?_
        refine r_bipush (v := 40) hC dX11_sheet_44 (by decide) ?_
        refine r_icmp_le hC 52 dX11_sheet_46 (by decide) (fun c5 => ?_) (fun c5 => ?_)
        · refine r_iload_n hC dX11_sheet_52 rfl 3 rfl ?_
          refine r_if_ge hC 59 dX11_sheet_53 (by decide) (fun c6 => ?_) (fun c6 => ?_)
          · refine r_aload_n hC dX11_sheet_59 rfl 0 rfl ?_
            refine r_getR hC clX11 0 15 58 rfl rfl rfl (hC.n rfl) rfl lf_X11_95 dX11_sheet_60 ?_
            refine r_iload_n hC dX11_sheet_63 rfl 1 rfl ?_
            refine r_iload_n hC dX11_sheet_64 rfl 2 rfl ?_
            refine r_iload_n hC dX11_sheet_65 rfl 3 rfl ?_
            refine r_callVV hC (b := 58) (ci := 7) (st := []) [.int a2, .int a3, .int a4] rfl (hC.n rfl) rfl rfl (c_X7_renew hC.w σ a2 a3 a4) yk_X7_renew lm_X11_320 rfl ⟨rfl, rfl⟩ rfl dX11_sheet_66 (fun σ7 => ?_)
            refine r_iconst (v := 1) hC dX11_sheet_69 (by decide) ?_
            exact r_iret hC hret rfl dX11_sheet_70
          · refine r_bipush (v := (-14)) hC dX11_sheet_56 (by decide) ?_
            exact r_iret hC hret rfl dX11_sheet_58
        · refine r_bipush (v := (-2)) hC dX11_sheet_49 (by decide) ?_
          exact r_iret hC hret rfl dX11_sheet_51
      · refine r_aload_n hC dX11_sheet_31 rfl 0 rfl ?_
        refine r_getR hC clX11 0 15 58 rfl rfl rfl (hC.n rfl) rfl lf_X11_95 dX11_sheet_32 ?_
        refine r_getR hC clX7 58 0 59 rfl rfl rfl (hC.n rfl) rfl lf_X11_317 dX11_sheet_35 ?_
        refine r_iload_n hC dX11_sheet_38 rfl 1 rfl ?_
        refine r_iconst (v := (-1)) hC dX11_sheet_39 (by decide) ?_
        refine r_gd (fun g8 => ?_)
        refine r_iast hC 59 4 rfl rfl g8 dX11_sheet_40 ?_
        refine r_nmS (fun σ9 => ?_)
        refine r_iconst (v := 1) hC dX11_sheet_41 (by decide) ?_
        exact r_iret hC hret rfl dX11_sheet_42
    · refine r_icmp_eq hC 26 dX11_sheet_13 (by decide) (fun c10 => ?_) (fun c10 => ?_)
      · exact r_lv [0, 1, 2, 3] rfl hj3
      · refine r_iload_n hC dX11_sheet_16 rfl 2 rfl ?_
        refine r_callSP hC (st := []) [.int a3] (c_X7_isSort hC.w σ a3) yk_X7_isSort lm_X11_314 rfl ⟨rfl, rfl⟩ rfl dX11_sheet_17 (fun v11 => ?_)
        refine r_if_ne hC 26 dX11_sheet_20 (by decide) (fun c12 => ?_) (fun c12 => ?_)
        · exact r_lv [0, 1, 2, 3] rfl hj3
        · refine r_bipush (v := (-2)) hC dX11_sheet_23 (by decide) ?_
          exact r_iret hC hret rfl dX11_sheet_25
set_option maxHeartbeats 4000000 in
set_option maxRecDepth 100000 in
theorem c_X11_cell {l : Launch} {w : Wd} (hW : HWd w shX rX 66) (σ : St) (a2 : Int32) (a3 : Int32) (a4 : Int32)  : ∀ res, f_X11_cell σ a2 a3 a4 = some res → MtI l yX11_cell cX11_cell 4 .int 1 23 w [.ref (wA w 0), .int a2, .int a3, .int a4] σ res := by
  refine mt_I (by decide) rfl hW (fun X hl0 hC hret => ?_)
  show RF X w (Aw w (xs_ X).heap.size) 4 (QI X w) (f_X11_cell σ a2 a3 a4) 0 [(0, .ref (wA w 0)), (1, .int a2), (2, .int a3), (3, .int a4)] [] σ
  unfold f_X11_cell
  refine r_aload_n hC dX11_cell_0 rfl 0 rfl ?_
  refine r_getR hC clX11 0 15 58 rfl rfl rfl (hC.n rfl) rfl lf_X11_95 dX11_cell_1 ?_
  refine r_iload_n hC dX11_cell_4 rfl 1 rfl ?_
  refine r_callVP hC (b := 58) (ci := 7) (st := []) [.int a2] rfl (hC.n rfl) rfl rfl (c_X7_has hC.w σ a2) yk_X7_has lm_X11_268 rfl ⟨rfl, rfl⟩ rfl dX11_cell_5 (fun v1 => ?_)
  refine r_if_ne hC 14 dX11_cell_8 (by decide) (fun c2 => ?_) (fun c2 => ?_)
  · refine r_aload_n hC dX11_cell_14 rfl 0 rfl ?_
    refine r_getR hC clX11 0 15 58 rfl rfl rfl (hC.n rfl) rfl lf_X11_95 dX11_cell_15 ?_
    refine r_iload_n hC dX11_cell_18 rfl 1 rfl ?_
    refine r_callVP hC (b := 58) (ci := 7) (st := []) [.int a2] rfl (hC.n rfl) rfl rfl (c_X7_isMissing hC.w σ a2) yk_X7_isMissing lm_X11_269 rfl ⟨rfl, rfl⟩ rfl dX11_cell_19 (fun v3 => ?_)
    refine r_if_eq hC 28 dX11_cell_22 (by decide) (fun c4 => ?_) (fun c4 => ?_)
    · refine r_aload_n hC dX11_cell_28 rfl 0 rfl ?_
      refine r_getR hC clX11 0 15 58 rfl rfl rfl (hC.n rfl) rfl lf_X11_95 dX11_cell_29 ?_
      refine r_iload_n hC dX11_cell_32 rfl 1 rfl ?_
      refine r_iload_n hC dX11_cell_33 rfl 2 rfl ?_
      refine r_iconst (v := 1) hC dX11_cell_34 (by decide) ?_
      refine r_callVP hC (b := 58) (ci := 7) (st := []) [.int a2, .int a3, .int 1] rfl (hC.n rfl) rfl rfl (c_X7_holds hC.w σ a2 a3 1) yk_X7_holds lm_X11_324 rfl ⟨rfl, rfl⟩ rfl dX11_cell_35 (fun v5 => ?_)
      refine r_if_ne hC 44 dX11_cell_38 (by decide) (fun c6 => ?_) (fun c6 => ?_)
      · refine r_aload_n hC dX11_cell_44 rfl 0 rfl ?_
        refine r_getR hC clX11 0 15 58 rfl rfl rfl (hC.n rfl) rfl lf_X11_95 dX11_cell_45 ?_
        refine r_iload_n hC dX11_cell_48 rfl 1 rfl ?_
        refine r_iload_n hC dX11_cell_49 rfl 2 rfl ?_
        refine r_iload_n hC dX11_cell_50 rfl 3 rfl ?_
        refine r_callVV hC (b := 58) (ci := 7) (st := []) [.int a2, .int a3, .int a4] rfl (hC.n rfl) rfl rfl (c_X7_put hC.w σ a2 a3 a4) yk_X7_put lm_X11_327 rfl ⟨rfl, rfl⟩ rfl dX11_cell_51 (fun σ7 => ?_)
        refine r_iconst (v := 1) hC dX11_cell_54 (by decide) ?_
        exact r_iret hC hret rfl dX11_cell_55
      · refine r_bipush (v := (-12)) hC dX11_cell_41 (by decide) ?_
        exact r_iret hC hret rfl dX11_cell_43
    · refine r_bipush (v := (-11)) hC dX11_cell_25 (by decide) ?_
      exact r_iret hC hret rfl dX11_cell_27
  · refine r_bipush (v := (-2)) hC dX11_cell_11 (by decide) ?_
    exact r_iret hC hret rfl dX11_cell_13
set_option maxHeartbeats 4000000 in
set_option maxRecDepth 100000 in
theorem c_X11_copy {l : Launch} {w : Wd} (hW : HWd w shX rX 66) (σ : St) (a2 : Int32) (a3 : Int32) (a4 : Int32) (a5 : Int32) (a6 : Int32)  : ∀ res, f_X11_copy σ a2 a3 a4 a5 a6 = some res → MtI l yX11_copy cX11_copy 6 .int 1 60 w [.ref (wA w 0), .int a2, .int a3, .int a4, .int a5, .int a6] σ res := by
  refine mt_I (by decide) rfl hW (fun X hl0 hC hret => ?_)
  show RF X w (Aw w (xs_ X).heap.size) 6 (QI X w) (f_X11_copy σ a2 a3 a4 a5 a6) 0 [(0, .ref (wA w 0)), (1, .int a2), (2, .int a3), (3, .int a4), (4, .int a5), (5, .int a6)] [] σ
  unfold f_X11_copy
  refine r_aload_n hC dX11_copy_0 rfl 0 rfl ?_
  refine r_getR hC clX11 0 15 58 rfl rfl rfl (hC.n rfl) rfl lf_X11_95 dX11_copy_1 ?_
  refine r_iload_n hC dX11_copy_4 rfl 1 rfl ?_
  refine r_callVP hC (b := 58) (ci := 7) (st := []) [.int a2] rfl (hC.n rfl) rfl rfl (c_X7_has hC.w σ a2) yk_X7_has lm_X11_268 rfl ⟨rfl, rfl⟩ rfl dX11_copy_5 (fun v1 => ?_)
  refine r_if_eq hC 22 dX11_copy_8 (by decide) (fun c2 => ?_) (fun c2 => ?_)
  · refine r_bipush (v := (-2)) hC dX11_copy_22 (by decide) ?_
    exact r_iret hC hret rfl dX11_copy_24
  · refine r_aload_n hC dX11_copy_11 rfl 0 rfl ?_
    refine r_getR hC clX11 0 15 58 rfl rfl rfl (hC.n rfl) rfl lf_X11_95 dX11_copy_12 ?_
    refine r_iload_n hC dX11_copy_15 rfl 3 rfl ?_
    refine r_callVP hC (b := 58) (ci := 7) (st := []) [.int a4] rfl (hC.n rfl) rfl rfl (c_X7_has hC.w σ a4) yk_X7_has lm_X11_268 rfl ⟨rfl, rfl⟩ rfl dX11_copy_16 (fun v3 => ?_)
    refine r_if_ne hC 25 dX11_copy_19 (by decide) (fun c4 => ?_) (fun c4 => ?_)
    · refine r_aload_n hC dX11_copy_25 rfl 0 rfl ?_
      refine r_getR hC clX11 0 15 58 rfl rfl rfl (hC.n rfl) rfl lf_X11_95 dX11_copy_26 ?_
      refine r_iload_n hC dX11_copy_29 rfl 1 rfl ?_
      refine r_callVP hC (b := 58) (ci := 7) (st := []) [.int a2] rfl (hC.n rfl) rfl rfl (c_X7_isMissing hC.w σ a2) yk_X7_isMissing lm_X11_269 rfl ⟨rfl, rfl⟩ rfl dX11_copy_30 (fun v5 => ?_)
      refine r_if_ne hC 47 dX11_copy_33 (by decide) (fun c6 => ?_) (fun c6 => ?_)
      · refine r_bipush (v := (-11)) hC dX11_copy_47 (by decide) ?_
        exact r_iret hC hret rfl dX11_copy_49
      · refine r_aload_n hC dX11_copy_36 rfl 0 rfl ?_
        refine r_getR hC clX11 0 15 58 rfl rfl rfl (hC.n rfl) rfl lf_X11_95 dX11_copy_37 ?_
        refine r_iload_n hC dX11_copy_40 rfl 3 rfl ?_
        refine r_callVP hC (b := 58) (ci := 7) (st := []) [.int a4] rfl (hC.n rfl) rfl rfl (c_X7_isMissing hC.w σ a4) yk_X7_isMissing lm_X11_269 rfl ⟨rfl, rfl⟩ rfl dX11_copy_41 (fun v7 => ?_)
        refine r_if_eq hC 50 dX11_copy_44 (by decide) (fun c8 => ?_) (fun c8 => ?_)
        · refine r_aload_n hC dX11_copy_50 rfl 0 rfl ?_
          refine r_getR hC clX11 0 15 58 rfl rfl rfl (hC.n rfl) rfl lf_X11_95 dX11_copy_51 ?_
          refine r_getR hC clX7 58 0 59 rfl rfl rfl (hC.n rfl) rfl lf_X11_317 dX11_copy_54 ?_
          refine r_iload_n hC dX11_copy_57 rfl 1 rfl ?_
          refine r_gd (fun g9 => ?_)
          refine r_iald hC 59 4 rfl rfl g9 dX11_copy_58 ?_
          refine r_nmI (fun v10 => ?_)
          refine r_aload_n hC dX11_copy_59 rfl 0 rfl ?_
          refine r_getR hC clX11 0 15 58 rfl rfl rfl (hC.n rfl) rfl lf_X11_95 dX11_copy_60 ?_
          refine r_getR hC clX7 58 0 59 rfl rfl rfl (hC.n rfl) rfl lf_X11_317 dX11_copy_63 ?_
          refine r_iload_n hC dX11_copy_66 rfl 3 rfl ?_
          refine r_gd (fun g11 => ?_)
          refine r_iald hC 59 4 rfl rfl g11 dX11_copy_67 ?_
          refine r_nmI (fun v12 => ?_)
          refine r_icmp_eq hC 74 dX11_copy_68 (by decide) (fun c13 => ?_) (fun c13 => ?_)
          · refine r_aload_n hC dX11_copy_74 rfl 0 rfl ?_
            refine r_getR hC clX11 0 15 58 rfl rfl rfl (hC.n rfl) rfl lf_X11_95 dX11_copy_75 ?_
            refine r_iload_n hC dX11_copy_78 rfl 1 rfl ?_
            refine r_iload_n hC dX11_copy_79 rfl 2 rfl ?_
            refine r_iload hC dX11_copy_80 5 rfl ?_
            refine r_callVP hC (b := 58) (ci := 7) (st := []) [.int a2, .int a3, .int a6] rfl (hC.n rfl) rfl rfl (c_X7_holds hC.w σ a2 a3 a6) yk_X7_holds lm_X11_324 rfl ⟨rfl, rfl⟩ rfl dX11_copy_82 (fun v14 => ?_)
            refine r_if_eq hC 103 dX11_copy_85 (by decide) (fun c15 => ?_) (fun c15 => ?_)
            · refine r_bipush (v := (-12)) hC dX11_copy_103 (by decide) ?_
              exact r_iret hC hret rfl dX11_copy_105
            · refine r_aload_n hC dX11_copy_88 rfl 0 rfl ?_
              refine r_getR hC clX11 0 15 58 rfl rfl rfl (hC.n rfl) rfl lf_X11_95 dX11_copy_89 ?_
              refine r_iload_n hC dX11_copy_92 rfl 3 rfl ?_
              refine r_iload hC dX11_copy_93 4 rfl ?_
              refine r_iload hC dX11_copy_95 5 rfl ?_
              refine r_callVP hC (b := 58) (ci := 7) (st := []) [.int a4, .int a5, .int a6] rfl (hC.n rfl) rfl rfl (c_X7_holds hC.w σ a4 a5 a6) yk_X7_holds lm_X11_324 rfl ⟨rfl, rfl⟩ rfl dX11_copy_97 (fun v16 => ?_)
              refine r_if_ne hC 106 dX11_copy_100 (by decide) (fun c17 => ?_) (fun c17 => ?_)
              · refine r_aload_n hC dX11_copy_106 rfl 0 rfl ?_
                refine r_getR hC clX11 0 15 58 rfl rfl rfl (hC.n rfl) rfl lf_X11_95 dX11_copy_107 ?_
                refine r_getR hC clX7 58 2 61 rfl rfl rfl (hC.n rfl) rfl lf_X11_273 dX11_copy_110 ?_
                refine r_iload_n hC dX11_copy_113 rfl 1 rfl ?_
                refine r_gd (fun g18 => ?_)
                have e19 := aaI g18
                refine r_aald hC 61 4 (62 + Int32.toNatClampNeg a2) rfl rfl g18 e19.1 dX11_copy_114 ?_
                refine r_iload_n hC dX11_copy_115 rfl 2 rfl ?_
                refine r_aload_n hC dX11_copy_116 rfl 0 rfl ?_
                refine r_getR hC clX11 0 15 58 rfl rfl rfl (hC.n rfl) rfl lf_X11_95 dX11_copy_117 ?_
                refine r_getR hC clX7 58 2 61 rfl rfl rfl (hC.n rfl) rfl lf_X11_273 dX11_copy_120 ?_
                refine r_iload_n hC dX11_copy_123 rfl 3 rfl ?_
                refine r_gd (fun g20 => ?_)
                have e21 := aaI g20
                refine r_aald hC 61 4 (62 + Int32.toNatClampNeg a4) rfl rfl g20 e21.1 dX11_copy_124 ?_
                refine r_iload hC dX11_copy_125 4 rfl ?_
                refine r_iload hC dX11_copy_127 5 rfl ?_
                refine r_gd (fun g22 => ?_)
                refine r_copyi hC (62 + Int32.toNatClampNeg a2) (62 + Int32.toNatClampNeg a4) 40 40 e19.2.1 e21.2.1 e19.2.2 e21.2.2 g22 (by decide) (Nat.le_of_ble_eq_true rfl) lm_X11_214 wn_copy ws_copy wi_sys dX11_copy_129 ?_
                refine r_nmS (fun σ23 => ?_)
                refine r_iload hC dX11_copy_132 5 rfl ?_
                exact r_iret hC hret rfl dX11_copy_134
              · refine r_bipush (v := (-12)) hC dX11_copy_103 (by decide) ?_
                exact r_iret hC hret rfl dX11_copy_105
          · refine r_bipush (v := (-13)) hC dX11_copy_71 (by decide) ?_
            exact r_iret hC hret rfl dX11_copy_73
        · refine r_bipush (v := (-11)) hC dX11_copy_47 (by decide) ?_
          exact r_iret hC hret rfl dX11_copy_49
    · refine r_bipush (v := (-2)) hC dX11_copy_22 (by decide) ?_
      exact r_iret hC hret rfl dX11_copy_24
set_option maxHeartbeats 4000000 in
set_option maxRecDepth 100000 in
theorem w_X11_pieces_l82 {X : Mc} {w : Wd} (hC : Cok X w (Aw w (xs_ X).heap.size) yX11_pieces.cls cX11_pieces 9 2 49 shX rX 66) (hret : (xmeth X).sig.returnType = some .int) (a2 : Int32) (a5 : Int32) (k14 : Nat) (σ : St)  (hk14 : shX k14 = (1, 40)) (bk14 : Nat.blt k14 66 = true)   : ∀ (n : Nat) (x15 : Int32) (x16 : Int32) (x17 : Int32) (σ18 : St), RF X w (Aw w (xs_ X).heap.size) 9 (QI X w) (f_X11_pieces_l82 a2 a5 k14 n x15 x16 x17 σ18) 82 [(0, .ref (wA w 0)), (1, .int a2), (4, .int a5), (5, .ref (wA w k14)), (6, .int x15), (7, .int x16), (8, .int x17)] [] σ18 := by
  intro n
  induction n with
  | zero => intro x15 x16 x17 σ18; rw [f_X11_pieces_l82]; exact r_none
  | succ n ih =>
    intro x15 x16 x17 σ18
    rw [f_X11_pieces_l82]
    refine r_iload hC dX11_pieces_82 6 rfl ?_
    refine r_iload hC dX11_pieces_84 2 rfl ?_
    refine r_icmp_ge hC 151 dX11_pieces_86 (by decide) (fun c19 => ?_) (fun c19 => ?_)
    · refine r_iload hC dX11_pieces_151 5 rfl ?_
      exact r_iret hC hret rfl dX11_pieces_153
    · refine r_aload_n hC dX11_pieces_89 rfl 0 rfl ?_
      refine r_getR hC clX11 0 15 58 rfl rfl rfl (hC.n rfl) rfl lf_X11_95 dX11_pieces_90 ?_
      refine r_iload_n hC dX11_pieces_93 rfl 1 rfl ?_
      refine r_iload hC dX11_pieces_94 4 rfl ?_
      refine r_iconst (v := 4) hC dX11_pieces_96 (by decide) ?_
      refine r_callVP hC (b := 58) (ci := 7) (st := []) [.int a2, .int x15, .int 4] rfl (hC.n rfl) rfl rfl (c_X7_holds hC.w σ18 a2 x15 4) yk_X7_holds lm_X11_324 rfl ⟨rfl, rfl⟩ rfl dX11_pieces_97 (fun v20 => ?_)
      refine r_if_ne hC 106 dX11_pieces_100 (by decide) (fun c21 => ?_) (fun c21 => ?_)
      · refine r_aload_n hC dX11_pieces_106 rfl 0 rfl ?_
        refine r_aload hC dX11_pieces_107 3 rfl ?_
        refine r_iload hC dX11_pieces_109 4 rfl ?_
        refine r_gd (fun g22 => ?_)
        refine r_iald hC k14 40 hk14 bk14 g22 dX11_pieces_111 ?_
        refine r_nmI (fun v23 => ?_)
        refine r_aload hC dX11_pieces_112 3 rfl ?_
        refine r_iload hC dX11_pieces_114 4 rfl ?_
        refine r_iconst (v := 1) hC dX11_pieces_116 (by decide) ?_
        refine r_iadd hC dX11_pieces_117 ?_
        refine r_nmI (fun v24 => ?_)
        refine r_gd (fun g25 => ?_)
        refine r_iald hC k14 40 hk14 bk14 g25 dX11_pieces_118 ?_
        refine r_nmI (fun v26 => ?_)
        refine r_aload hC dX11_pieces_119 3 rfl ?_
        refine r_iload hC dX11_pieces_121 4 rfl ?_
        refine r_iconst (v := 2) hC dX11_pieces_123 (by decide) ?_
        refine r_iadd hC dX11_pieces_124 ?_
        refine r_nmI (fun v27 => ?_)
        refine r_gd (fun g28 => ?_)
        refine r_iald hC k14 40 hk14 bk14 g28 dX11_pieces_125 ?_
        refine r_nmI (fun v29 => ?_)
        refine r_aload hC dX11_pieces_126 3 rfl ?_
        refine r_iload hC dX11_pieces_128 4 rfl ?_
        refine r_iconst (v := 3) hC dX11_pieces_130 (by decide) ?_
        refine r_iadd hC dX11_pieces_131 ?_
        refine r_nmI (fun v30 => ?_)
        refine r_gd (fun g31 => ?_)
        refine r_iald hC k14 40 hk14 bk14 g31 dX11_pieces_132 ?_
        refine r_nmI (fun v32 => ?_)
        refine r_callVI hC (b := 0) (ci := 11) (st := []) [.int v23, .int v26, .int v29, .int v32] rfl (hC.n rfl) rfl rfl (c_X11_piece hC.w σ18 v23 v26 v29 v32) yk_X11_piece lm_X11_330 rfl ⟨rfl, rfl⟩ rfl dX11_pieces_133 (fun v33 σ34 => ?_)
        refine r_jn (T := fun (j36 : Int32 → Option (Int32 × St)) => ∀ (x35 : Int32), RF X w (Aw w (xs_ X).heap.size) 9 (QI X w) (j36 x35) 142 [(0, .ref (wA w 0)), (1, .int a2), (4, .int a5), (5, .ref (wA w k14)), (6, .int x15), (7, .int x35), (8, .int x17)] [] σ34) ?_ (fun j36 hj36 => ?_)
        · intro x35
          refine r_iinc (v := x15 + 4) (lv' := [(6, .int (x15 + 4)), (0, .ref (wA w 0)), (1, .int a2), (4, .int a5), (5, .ref (wA w k14)), (7, .int x35), (8, .int x17)]) hC dX11_pieces_142 4 rfl rfl (by decide) rfl ?_
          refine r_iinc (v := x17 + 1) (lv' := [(8, .int (x17 + 1)), (6, .int (x15 + 4)), (0, .ref (wA w 0)), (1, .int a2), (4, .int a5), (5, .ref (wA w k14)), (7, .int x35)]) hC dX11_pieces_145 6 rfl rfl (by decide) rfl ?_
          refine r_goto hC 82 dX11_pieces_148 (by decide) ?_
          exact r_lv [2, 3, 4, 5, 1, 6, 0] rfl (ih (x15 + 4) x35 (x17 + 1) σ34)
        · refine r_if_lt hC 142 dX11_pieces_136 (by decide) (fun c37 => ?_) (fun c37 => ?_)
          · exact r_lv [0, 1, 2, 3, 4, 5, 6] rfl (hj36 x16)
          · refine r_iinc (v := x16 + 1) (lv' := [(7, .int (x16 + 1)), (0, .ref (wA w 0)), (1, .int a2), (4, .int a5), (5, .ref (wA w k14)), (6, .int x15), (8, .int x17)]) hC dX11_pieces_139 5 rfl rfl (by decide) rfl ?_
            exact r_lv [1, 2, 3, 4, 5, 0, 6] rfl (hj36 (x16 + 1))
      · refine r_bipush (v := (-12)) hC dX11_pieces_103 (by decide) ?_
        exact r_iret hC hret rfl dX11_pieces_105
set_option maxHeartbeats 4000000 in
set_option maxRecDepth 100000 in
theorem c_X11_pieces {l : Launch} {w : Wd} (hW : HWd w shX rX 66) (σ : St) (a2 : Int32) (a3 : Int32) (a4 : Int32) (a5 : Int32)  : ∀ res, f_X11_pieces σ a2 a3 a4 a5 = some res → MtI l yX11_pieces cX11_pieces 9 .int 2 49 w [.ref (wA w 0), .int a2, .int a3, .int a4, .int a5] σ res := by
  refine mt_I (by decide) rfl hW (fun X hl0 hC hret => ?_)
  show RF X w (Aw w (xs_ X).heap.size) 9 (QI X w) (f_X11_pieces σ a2 a3 a4 a5) 0 [(0, .ref (wA w 0)), (1, .int a2), (2, .int a3), (3, .int a4), (4, .int a5)] [] σ
  unfold f_X11_pieces
  refine r_aload_n hC dX11_pieces_0 rfl 0 rfl ?_
  refine r_getR hC clX11 0 15 58 rfl rfl rfl (hC.n rfl) rfl lf_X11_95 dX11_pieces_1 ?_
  refine r_iload_n hC dX11_pieces_4 rfl 1 rfl ?_
  refine r_callVP hC (b := 58) (ci := 7) (st := []) [.int a2] rfl (hC.n rfl) rfl rfl (c_X7_has hC.w σ a2) yk_X7_has lm_X11_268 rfl ⟨rfl, rfl⟩ rfl dX11_pieces_5 (fun v1 => ?_)
  refine r_if_eq hC 29 dX11_pieces_8 (by decide) (fun c2 => ?_) (fun c2 => ?_)
  · refine r_bipush (v := (-2)) hC dX11_pieces_29 (by decide) ?_
    exact r_iret hC hret rfl dX11_pieces_31
  · refine r_iload_n hC dX11_pieces_11 rfl 2 rfl ?_
    refine r_callSP hC (st := []) [.int a3] (c_X7_isSort hC.w σ a3) yk_X7_isSort lm_X11_314 rfl ⟨rfl, rfl⟩ rfl dX11_pieces_12 (fun v3 => ?_)
    refine r_if_eq hC 29 dX11_pieces_15 (by decide) (fun c4 => ?_) (fun c4 => ?_)
    · refine r_bipush (v := (-2)) hC dX11_pieces_29 (by decide) ?_
      exact r_iret hC hret rfl dX11_pieces_31
    · refine r_iload hC dX11_pieces_18 4 rfl ?_
      refine r_iconst (v := 0) hC dX11_pieces_20 (by decide) ?_
      refine r_bipush (v := 10) hC dX11_pieces_21 (by decide) ?_
      refine r_callSP hC (st := []) [.int a5, .int 0, .int 10] (c_X11_within hC.w σ a5 0 10) yk_X11_within lm_X11_99 rfl ⟨rfl, rfl⟩ rfl dX11_pieces_23 (fun v5 => ?_)
      refine r_if_ne hC 32 dX11_pieces_26 (by decide) (fun c6 => ?_) (fun c6 => ?_)
      · refine r_aload_n hC dX11_pieces_32 rfl 0 rfl ?_
        refine r_getR hC clX11 0 15 58 rfl rfl rfl (hC.n rfl) rfl lf_X11_95 dX11_pieces_33 ?_
        refine r_iload_n hC dX11_pieces_36 rfl 1 rfl ?_
        refine r_callVP hC (b := 58) (ci := 7) (st := []) [.int a2] rfl (hC.n rfl) rfl rfl (c_X7_isMissing hC.w σ a2) yk_X7_isMissing lm_X11_269 rfl ⟨rfl, rfl⟩ rfl dX11_pieces_37 (fun v7 => ?_)
        refine r_if_eq hC 46 dX11_pieces_40 (by decide) (fun c8 => ?_) (fun c8 => ?_)
        · refine r_aload_n hC dX11_pieces_46 rfl 0 rfl ?_
          refine r_getR hC clX11 0 15 58 rfl rfl rfl (hC.n rfl) rfl lf_X11_95 dX11_pieces_47 ?_
          refine r_getR hC clX7 58 0 59 rfl rfl rfl (hC.n rfl) rfl lf_X11_317 dX11_pieces_50 ?_
          refine r_iload_n hC dX11_pieces_53 rfl 1 rfl ?_
          refine r_gd (fun g9 => ?_)
          refine r_iald hC 59 4 rfl rfl g9 dX11_pieces_54 ?_
          refine r_nmI (fun v10 => ?_)
          refine r_iload_n hC dX11_pieces_55 rfl 2 rfl ?_
          refine r_icmp_eq hC 62 dX11_pieces_56 (by decide) (fun c11 => ?_) (fun c11 => ?_)
          · refine r_aload_n hC dX11_pieces_62 rfl 0 rfl ?_
            refine r_getR hC clX11 0 15 58 rfl rfl rfl (hC.n rfl) rfl lf_X11_95 dX11_pieces_63 ?_
            refine r_getR hC clX7 58 2 61 rfl rfl rfl (hC.n rfl) rfl lf_X11_273 dX11_pieces_66 ?_
            refine r_iload_n hC dX11_pieces_69 rfl 1 rfl ?_
            refine r_gd (fun g12 => ?_)
            have e13 := aaI g12
            refine r_aald hC 61 4 (62 + Int32.toNatClampNeg a2) rfl rfl g12 e13.1 dX11_pieces_70 ?_
            refine r_astore (lv' := [(5, .ref (wA w (62 + Int32.toNatClampNeg a2))), (0, .ref (wA w 0)), (1, .int a2), (2, .int a3), (3, .int a4), (4, .int a5)]) hC dX11_pieces_71 (by decide) rfl ?_
            refine r_iload_n hC dX11_pieces_73 rfl 4 rfl ?_
            refine r_istore (lv' := [(6, .int a4), (5, .ref (wA w (62 + Int32.toNatClampNeg a2))), (0, .ref (wA w 0)), (1, .int a2), (2, .int a3), (3, .int a4), (4, .int a5)]) hC dX11_pieces_74 (by decide) rfl ?_
            refine r_iconst (v := 0) hC dX11_pieces_76 (by decide) ?_
            refine r_istore (lv' := [(7, .int 0), (6, .int a4), (5, .ref (wA w (62 + Int32.toNatClampNeg a2))), (0, .ref (wA w 0)), (1, .int a2), (2, .int a3), (3, .int a4), (4, .int a5)]) hC dX11_pieces_77 (by decide) rfl ?_
            refine r_iconst (v := 0) hC dX11_pieces_79 (by decide) ?_
            refine r_istore (lv' := [(8, .int 0), (7, .int 0), (6, .int a4), (5, .ref (wA w (62 + Int32.toNatClampNeg a2))), (0, .ref (wA w 0)), (1, .int a2), (2, .int a3), (3, .int a4), (4, .int a5)]) hC dX11_pieces_80 (by decide) rfl ?_
            refine r_lv [4, 5, 8, 3, 2, 1, 0] rfl ?_
            exact w_X11_pieces_l82 hC hret a2 a5 (62 + Int32.toNatClampNeg a2) σ e13.2.1 e13.2.2 FU a4 0 0 σ
          · refine r_bipush (v := (-13)) hC dX11_pieces_59 (by decide) ?_
            exact r_iret hC hret rfl dX11_pieces_61
        · refine r_bipush (v := (-11)) hC dX11_pieces_43 (by decide) ?_
          exact r_iret hC hret rfl dX11_pieces_45
      · refine r_bipush (v := (-2)) hC dX11_pieces_29 (by decide) ?_
        exact r_iret hC hret rfl dX11_pieces_31
set_option maxHeartbeats 4000000 in
set_option maxRecDepth 100000 in
theorem c_X11_taken {l : Launch} {w : Wd} (hW : HWd w shX rX 66) (σ : St) (a2 : Int32) (a3 : Int32) (a4 : Int32)  : ∀ res, f_X11_taken σ a2 a3 a4 = some res → MtI l yX11_taken cX11_taken 5 .int 2 43 w [.ref (wA w 0), .int a2, .int a3, .int a4] σ (res, σ) := by
  refine mt_P (by decide) rfl hW (fun X hl0 hC hret => ?_)
  show RF X w (Aw w (xs_ X).heap.size) 5 (fun r => QI X w (r, σ)) (f_X11_taken σ a2 a3 a4) 0 [(0, .ref (wA w 0)), (1, .int a2), (2, .int a3), (3, .int a4)] [] σ
  unfold f_X11_taken
  refine r_iload_n hC dX11_taken_0 rfl 3 rfl ?_
  refine r_callSP hC (st := []) [.int a4] (c_X3_has hC.w σ a4) yk_X3_has lm_X11_146 rfl ⟨rfl, rfl⟩ rfl dX11_taken_1 (fun v1 => ?_)
  refine r_if_ne hC 10 dX11_taken_4 (by decide) (fun c2 => ?_) (fun c2 => ?_)
  · refine r_aload_n hC dX11_taken_10 rfl 0 rfl ?_
    refine r_getR hC clX11 0 11 20 rfl rfl rfl (hC.n rfl) rfl lf_X11_65 dX11_taken_11 ?_
    refine r_iload_n hC dX11_taken_14 rfl 1 rfl ?_
    refine r_iload_n hC dX11_taken_15 rfl 2 rfl ?_
    refine r_callVP hC (b := 20) (ci := 4) (st := []) [.int a2, .int a3] rfl (hC.n rfl) rfl rfl (c_X4_kindOf hC.w σ a2 a3) yk_X4_kindOf lm_X11_188 rfl ⟨rfl, rfl⟩ rfl dX11_taken_16 (fun v3 => ?_)
    refine r_istore (lv' := [(4, .int v3), (0, .ref (wA w 0)), (1, .int a2), (2, .int a3), (3, .int a4)]) hC dX11_taken_19 (by decide) rfl ?_
    refine r_iload hC dX11_taken_21 0 rfl ?_
    refine r_iconst (v := (-1)) hC dX11_taken_23 (by decide) ?_
    refine r_icmp_ne hC 30 dX11_taken_24 (by decide) (fun c4 => ?_) (fun c4 => ?_)
    · refine r_iload hC dX11_taken_30 0 rfl ?_
      refine r_iload_n hC dX11_taken_32 rfl 4 rfl ?_
      refine r_callSP hC (st := []) [.int v3, .int a4] (c_X3_isUnder hC.w σ v3 a4) yk_X3_isUnder lm_X11_333 rfl ⟨rfl, rfl⟩ rfl dX11_taken_33 (fun v5 => ?_)
      refine r_if_eq hC 43 dX11_taken_36 (by decide) (fun c6 => ?_) (fun c6 => ?_)
      · refine r_bipush (v := (-13)) hC dX11_taken_43 (by decide) ?_
        exact r_iretP hC hret rfl dX11_taken_45
      · refine r_iload_n hC dX11_taken_39 rfl 3 rfl ?_
        refine r_goto hC 45 dX11_taken_40 (by decide) ?_
        exact r_iretP hC hret rfl dX11_taken_45
    · refine r_bipush (v := (-11)) hC dX11_taken_27 (by decide) ?_
      exact r_iretP hC hret rfl dX11_taken_29
  · refine r_bipush (v := (-2)) hC dX11_taken_7 (by decide) ?_
    exact r_iretP hC hret rfl dX11_taken_9
